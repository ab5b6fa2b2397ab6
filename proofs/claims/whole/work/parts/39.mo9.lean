/-- the number c in base q as the lower coefficients of a monic polynomial of degree e -/
def cand (q e c : Nat) : Nat → Int := fun x => if x < e then ((c / q ^ x % q : Nat) : Int) else if x = e then 1 else 0
theorem cand_ok {q e c n : Nat} (hq : 2 ≤ q) (he : e < n) : okp (q : Int) n (cand q e c) := by
  refine ⟨fun x => ?_, fun x hx => ?_⟩
  · unfold cand
    have := Nat.mod_lt (c / q ^ x) (show 0 < q by omega)
    split
    · omega
    · split <;> omega
  · unfold cand
    rw [if_neg (by omega), if_neg (by omega)]
theorem cand_dg {q e c : Nat} (he : e < 300) : dg 300 (cand q e c) = e := by
  refine dg_eq (by omega) (by omega) (fun x hx => ?_) (fun x hx _ => ?_)
  · unfold cand
    rw [if_neg (by omega), if_pos (by omega)]
    decide
  · unfold cand
    rw [if_neg (by omega), if_neg (by omega)]
theorem low_all {q c : Nat} (hq : 2 ≤ q) : ∀ k : Nat, (∀ x, x < k → c / q ^ x % q = q - 1) → c % q ^ k = q ^ k - 1
  | 0, _ => by rw [Nat.pow_zero, Nat.mod_one]
  | k + 1, h => by
    have h1 := low_all hq k (fun x hx => h x (by omega))
    rw [Nat.mod_pow_succ, h1, h k (by omega), Nat.pow_succ]
    have h2 : 0 < q ^ k := Nat.pow_pos (by omega)
    obtain ⟨r, rfl⟩ : ∃ r, q = r + 1 := ⟨q - 1, by omega⟩
    rw [Nat.add_sub_cancel, Nat.mul_succ]
    omega
theorem cand_carry {q c k : Nat} (hq : 2 ≤ q) (h : ∀ x, x < k → c / q ^ x % q = q - 1) : c + 1 = q ^ k * (c / q ^ k + 1) := by
  have h1 := low_all hq k h
  have h2 := Nat.div_add_mod c (q ^ k)
  have h3 : 0 < q ^ k := Nat.pow_pos (by omega)
  rw [Nat.mul_add, Nat.mul_one]
  omega
theorem succ_div {q h : Nat} (hq : 2 ≤ q) (hh : h % q ≠ q - 1) : (h + 1) / q = h / q ∧ (h + 1) % q = h % q + 1 := by
  have h1 := Nat.div_add_mod h q
  have h2 := Nat.mod_lt h (show 0 < q by omega)
  have h3 : h + 1 = q * (h / q) + (h % q + 1) := by omega
  have h4 : h % q + 1 < q := by omega
  constructor
  · rw [h3, Nat.mul_add_div (by omega), Nat.div_eq_of_lt h4, Nat.add_zero]
  · have : (h + 1) % q = (q * (h / q) + (h % q + 1)) % q := congrArg (· % q) h3
    rw [this, Nat.mul_add_mod, Nat.mod_eq_of_lt h4]
theorem cand_digits {q c k : Nat} (hq : 2 ≤ q) (h : ∀ x, x < k → c / q ^ x % q = q - 1) (hk : c / q ^ k % q ≠ q - 1) (x : Nat) : (c + 1) / q ^ x % q = if x < k then 0 else if x = k then c / q ^ k % q + 1 else c / q ^ x % q := by
  have h3 := cand_carry hq h
  have hp : ∀ j, 0 < q ^ j := fun j => Nat.pow_pos (by omega)
  by_cases h1 : x < k
  · rw [if_pos h1, h3]
    obtain ⟨j, rfl⟩ : ∃ j, k = x + (j + 1) := ⟨k - x - 1, by omega⟩
    rw [Nat.pow_add, Nat.mul_assoc, Nat.mul_div_cancel_left _ (hp x), Nat.pow_succ, Nat.mul_comm (q ^ j) q, Nat.mul_assoc, Nat.mul_mod_right]
  · rw [if_neg h1]
    by_cases h2 : x = k
    · subst h2
      rw [if_pos rfl, h3, Nat.mul_div_cancel_left _ (hp x)]
      exact (succ_div hq hk).2
    · rw [if_neg h2]
      obtain ⟨j, rfl⟩ : ∃ j, x = k + (1 + j) := ⟨x - k - 1, by omega⟩
      have e1 : (c + 1) / q ^ (k + (1 + j)) = (c / q ^ k + 1) / q ^ (1 + j) := by
        rw [Nat.pow_add q k, ← Nat.div_div_eq_div_mul, h3, Nat.mul_div_cancel_left _ (hp k)]
      have e2 : c / q ^ (k + (1 + j)) = (c / q ^ k) / q ^ (1 + j) := by
        rw [Nat.pow_add q k, ← Nat.div_div_eq_div_mul]
      rw [e1, e2, Nat.pow_add, Nat.pow_one, ← Nat.div_div_eq_div_mul, ← Nat.div_div_eq_div_mul, (succ_div hq hk).1]
theorem cand_more {q c k e : Nat} (hq : 2 ≤ q) (hke : k < e) (h : ∀ x, x < k → c / q ^ x % q = q - 1) (hk : c / q ^ k % q ≠ q - 1) : c + 1 ≠ q ^ e := by
  intro he
  have h3 := cand_carry hq h
  have hp : 0 < q ^ k := Nat.pow_pos (by omega)
  obtain ⟨j, rfl⟩ : ∃ j, e = k + (1 + j) := ⟨e - k - 1, by omega⟩
  rw [he, Nat.pow_add] at h3
  have h4 := Nat.eq_of_mul_eq_mul_left hp h3
  have h5 := (succ_div hq hk).2
  rw [← h4, Nat.pow_add, Nat.pow_one, Nat.mul_mod_right] at h5
  omega
theorem ite_iI {c : Prop} [Decidable c] : (if c then iI 1 else iI 0) = iI (if c then 1 else 0) := by split <;> rfl
abbrev WK : Type := (Nat → Int) × KS
def tkN (pr : Int) (inv : Nat → Int) (e : Nat) (cd : Nat → Int) : Nat → WK → WK
  | 0, s => s
  | f + 1, s => if dg 300 s.1 < e then s else if dg 300 (dvm pr inv s.1 cd).1 < 0 then tkN pr inv e cd f ((dvm pr inv s.1 cd).2, noteK s.2 cd 1) else s
def allL (pr : Int) (inv : Nat → Int) (e : Nat) : Nat → Nat → WK → WK
  | 0, _, s => s
  | n + 1, c, s => if 2 * (e : Int) ≤ dg 300 (tkN pr inv e (cand pr.toNat e c) 25 s).1 then allL pr inv e n (c + 1) (tkN pr inv e (cand pr.toNat e c) 25 s) else tkN pr inv e (cand pr.toNat e c) 25 s
theorem noteK_n (K : KS) (a : Nat → Int) (n : Int) : (noteK K a n).1 ≤ K.1 + 1 := by
  unfold noteK
  split
  · exact Nat.le_succ _
  · exact Nat.le_refl _
theorem dvq_dg {pr : Int} {inv : Nat → Int} (hI : invP pr inv) {A B : Nat → Int} {N K : Nat} (hA : okp pr N A) (hB : okp pr K B) (hN : N ≤ 300) (hK : K ≤ 300) (h : dg 300 B ≤ dg 300 A) : dg 300 (dvm pr inv A B).2 ≤ dg 300 A - dg 300 B := by
  have hpr := hI.1
  have h1 := (dvm_ok (inv := inv) (M := (dg 300 A - dg 300 B + 1).toNat) (by omega) hA hB hN hK hpr.2 (by omega)).2
  have := (h1.ok hpr.2).dlt 300
  omega
section MAL
variable {p : Program} {l : Launch} {e : Env} {s : State} {m : MethodId} {args : Array Value} {below : List Frame} {meth : Method} {c : Code} {H : Heap} {locs : List Loc} {Q : State → Prop} {D : va_G} {cs : Nat → ClassId} {A : Nat → Prop} {ad : Nat → Nat} {T : Nat} {B : Nat → va_E} {th pr fc : Int}
variable {e0 : Nat} {M : Nat → Nat → Int} {inv : Nat → Int} {cd : Nat → Int}
theorem l_Mo_all_20 (X : Cx p s m args c b_Mo_all RMo) (hml : c.maxLocals = 4) (hT : 213 ≤ T) (hI : invP pr inv) (he : 1 ≤ e0 ∧ e0 ≤ 24) (hcd : okp pr 25 cd) (hde : dg 300 cd = e0) {Z : WK}
    (K : ∀ (M1 : Nat → Nat → Int) (B1 : Nat → va_E) (H : Heap) (locs : List Loc) (ls : Array Slot), Wd D cs A ad T s (mkR cs M1 B1) H locs → M1 46 = Z.1 → M1 47 = cd → moK cs ad th pr Z.2 M1 B1 → WR M1 → okp pr 25 Z.1 → (Z.2.1 : Int) + dg 300 Z.1 ≤ 24 → (∀ r, r < 16 ∨ 43 ≤ r → r ≠ 46 → r ≠ 47 → M1 r = M r) → (∀ i, i ≠ 132 → i ≠ 135 → B1 i = B i) → lv_has ls 4 [(0, .ref (ad (132))), (1, .int (iI (e0))), (2, .int (iI (1)))] → W p l e { frames := 3, cells := 0, slots := 0, locals := 71 } s m args below meth c H locs 0 0 Q (F0 m 69 ls [])) :
    ∀ (f : Nat) (S : WK) (M1 : Nat → Nat → Int) (B1 : Nat → va_E) (H : Heap) (locs : List Loc) (ls : Array Slot), Wd D cs A ad T s (mkR cs M1 B1) H locs → tkN pr inv e0 cd f S = Z → dg 300 S.1 < f → M1 46 = S.1 → M1 47 = cd → moK cs ad th pr S.2 M1 B1 → WR M1 → okp pr 25 S.1 → (S.2.1 : Int) + dg 300 S.1 ≤ 24 → (∀ r, r < 16 ∨ 43 ≤ r → r ≠ 46 → r ≠ 47 → M1 r = M r) → (∀ i, i ≠ 132 → i ≠ 135 → B1 i = B i) → lv_has ls 4 [(0, .ref (ad (132))), (1, .int (iI (e0))), (2, .int (iI (1)))] → W p l e { frames := 3, cells := 0, slots := 0, locals := 71 } s m args below meth c H locs 0 0 Q (F0 m 20 ls []) := by
  have hpr := hI.1
  intro f
  induction f with
  | zero =>
    intro S M1 B1 H locs ls w hz hf h46 h47 hK hW hS hs f1 f2 hl
    have hz : S = Z := hz
    subst hz
    have hB := hK.1
    have hds := dg_ge 300 S.1
    refine lv_aload_n X.1 X.2.1 d_Mo_all_20 rfl (lv_at hl 0 rfl) ?_
    refine m_get X hT w hB 11 (by decide) k_f_Mo_46 rfl d_Mo_all_21 ?_
    refine w_cSi (n := 1) (As := [.ref (ad (138 + 46))]) (rest := []) X w hml hl.1 (c_Mo_degree hT (M := M1) (B := B1) (a := 46) (by omega) (by rw [h46]; exact (hS.mono (by omega)).ok hpr.2)) k_m_Mo_80 k_st_Mo_degree k_i_Mo k_co_Mo_degree (by decide +kernel) rfl ⟨Nat.le_of_ble_eq_true rfl, Nat.le_of_ble_eq_true rfl⟩ ⟨rfl, rfl⟩ ⟨Nat.zero_le _, Nat.zero_le _⟩ rfl (Nat.le_of_ble_eq_true rfl) d_Mo_all_24 (fun r' C' H locs hp w => ?_)
    obtain ⟨rfl, rfl⟩ := hp
    rw [h46]
    refine lv_iload_n X.1 X.2.1 d_Mo_all_27 rfl (lv_at hl 1 rfl) ?_
    refine i_lt (a := dg 300 S.1) (b := e0) (tgt := 69) X (by omega) (by omega) d_Mo_all_28 (by decide) (fun h_28 => ?_) (fun h_28 => ?_)
    · exact K M1 B1 H locs ls w h46 h47 hK hW hS hs f1 f2 (lv_sub hl [0, 1, 2] rfl)
    · exact absurd h_28 (by omega)
  | succ f ih =>
    intro S M1 B1 H locs ls w hz hf h46 h47 hK hW hS hs f1 f2 hl
    have hz : (if dg 300 S.1 < e0 then S else if dg 300 (dvm pr inv S.1 cd).1 < 0 then tkN pr inv e0 cd f ((dvm pr inv S.1 cd).2, noteK S.2 cd 1) else S) = Z := hz
    have hB := hK.1
    have hds := dg_ge 300 S.1
    have hdl := (hS.ok hpr.2).dlt 300
    have hq9 := dvm_ok (inv := inv) (M := 25) (by omega) hS hcd (by omega) (by omega) hpr.2 (by omega)
    have hnn := noteK_n S.2 cd 1
    refine lv_aload_n X.1 X.2.1 d_Mo_all_20 rfl (lv_at hl 0 rfl) ?_
    refine m_get X hT w hB 11 (by decide) k_f_Mo_46 rfl d_Mo_all_21 ?_
    refine w_cSi (n := 1) (As := [.ref (ad (138 + 46))]) (rest := []) X w hml hl.1 (c_Mo_degree hT (M := M1) (B := B1) (a := 46) (by omega) (by rw [h46]; exact (hS.mono (by omega)).ok hpr.2)) k_m_Mo_80 k_st_Mo_degree k_i_Mo k_co_Mo_degree (by decide +kernel) rfl ⟨Nat.le_of_ble_eq_true rfl, Nat.le_of_ble_eq_true rfl⟩ ⟨rfl, rfl⟩ ⟨Nat.zero_le _, Nat.zero_le _⟩ rfl (Nat.le_of_ble_eq_true rfl) d_Mo_all_24 (fun r' C' H locs hp w => ?_)
    obtain ⟨rfl, rfl⟩ := hp
    rw [h46]
    refine lv_iload_n X.1 X.2.1 d_Mo_all_27 rfl (lv_at hl 1 rfl) ?_
    refine i_lt (a := dg 300 S.1) (b := e0) (tgt := 69) X (by omega) (by omega) d_Mo_all_28 (by decide) (fun h_28 => ?_) (fun h_28 => ?_)
    · rw [if_pos h_28] at hz
      subst hz
      exact K M1 B1 H locs ls w h46 h47 hK hW hS hs f1 f2 (lv_sub hl [0, 1, 2] rfl)
    · refine lv_aload_n X.1 X.2.1 d_Mo_all_31 rfl (lv_at hl 0 rfl) ?_
      refine lv_aload_n X.1 X.2.1 d_Mo_all_32 rfl (lv_at hl 0 rfl) ?_
      refine m_get X hT w hB 11 (by decide) k_f_Mo_46 rfl d_Mo_all_33 ?_
      refine lv_aload_n X.1 X.2.1 d_Mo_all_36 rfl (lv_at hl 0 rfl) ?_
      refine m_get X hT w hB 12 (by decide) k_f_Mo_49 rfl d_Mo_all_37 ?_
      refine w_cVi (n := 2) (i := 132) (ci := 5) (As := [.ref (ad (138 + 46)), .ref (ad (138 + 47))]) (rest := []) X w hml hl.1 (c_Mo_divides hT (M := M1) (B := B1) hB hI (a := 46) (b := 47) (by omega) (by omega) hW (by rw [h46]; exact hS.mono (by omega)) (by rw [h47]; exact hcd.mono (by omega)) (by rw [h47]; omega)) (by omega) (by rw [mkR_B (by decide)]; exact hB.1) rfl k_m_Mo_126 k_im_Mo_divides k_se_Mo_divides k_i_Mo k_co_Mo_divides (by decide +kernel) rfl ⟨Nat.le_of_ble_eq_true rfl, Nat.le_of_ble_eq_true rfl⟩ ⟨rfl, rfl⟩ ⟨Nat.zero_le _, Nat.zero_le _⟩ rfl (Nat.le_of_ble_eq_true rfl) d_Mo_all_40 (fun r' C' H locs hp w => ?_)
      obtain ⟨rfl, rfl⟩ := hp
      obtain ⟨Mw1, eMw1⟩ : ∃ mm : Nat → Nat → Int, mm = va_up (va_up M1 41 (dvm pr inv (M1 46) (M1 47)).2) 42 (dvm pr inv (M1 46) (M1 47)).1 := ⟨_, rfl⟩
      rw [← eMw1] at w
      rw [h46, h47] at eMw1
      rw [h46, h47, ite_iI]
      have hW1 : WR Mw1 := by rw [eMw1]; exact (hW.up ((hq9.2.mono (by omega)).ok hpr.2)).up ((hq9.1.mono (by omega)).ok hpr.2)
      have a46 : Mw1 46 = S.1 := by rw [eMw1, va_up_ne _ _ (by decide), va_up_ne _ _ (by decide), h46]
      have a47 : Mw1 47 = cd := by rw [eMw1, va_up_ne _ _ (by decide), va_up_ne _ _ (by decide), h47]
      have a41 : Mw1 41 = (dvm pr inv S.1 cd).2 := by rw [eMw1, va_up_ne _ _ (by decide), va_up_self]
      have aF : ∀ r, r ≠ 41 → r ≠ 42 → Mw1 r = M1 r := fun r r1 r2 => by rw [eMw1, va_up_ne _ _ r2, va_up_ne _ _ r1]
      refine z_eq (a := if dg 300 (dvm pr inv S.1 cd).1 < 0 then 1 else 0) (tgt := 69) X (by split <;> omega) d_Mo_all_43 (by decide) (fun h_43 => ?_) (fun h_43 => ?_)
      · rw [if_neg (by omega)] at hz
        have hn9 : ¬ dg 300 (dvm pr inv S.1 cd).1 < 0 := fun h => by rw [if_pos h] at h_43; exact absurd h_43 (by decide)
        rw [if_neg hn9] at hz
        subst hz
        exact K Mw1 B1 H locs ls w a46 a47 ⟨hK.1, hK.2.1, fun i hi => by rw [aF _ (by omega) (by omega)]; exact hK.2.2 i hi⟩ hW1 hS hs (fun r r1 r2 r3 => by rw [aF r (by omega) (by omega)]; exact f1 r r1 r2 r3) f2 (lv_sub hl [0, 1, 2] rfl)
      · refine lv_aload_n X.1 X.2.1 d_Mo_all_46 rfl (lv_at hl 0 rfl) ?_
        refine m_get X hT w hB 6 (by decide) k_f_Mo_31 rfl d_Mo_all_47 ?_
        refine lv_aload_n X.1 X.2.1 d_Mo_all_50 rfl (lv_at hl 0 rfl) ?_
        refine m_get X hT w hB 11 (by decide) k_f_Mo_46 rfl d_Mo_all_51 ?_
        refine w_cSv (n := 2) (As := [.ref (ad (138 + 41)), .ref (ad (138 + 46))]) (rest := []) X w hml hl.1 (c_Mo_copy hT (M := Mw1) (B := B1) (a := 41) (b := 46) (by omega) (by omega) hW1) k_m_Mo_84 k_st_Mo_copy k_i_Mo k_co_Mo_copy (by decide +kernel) rfl ⟨Nat.le_of_ble_eq_true rfl, Nat.le_of_ble_eq_true rfl⟩ ⟨rfl, rfl⟩ ⟨Nat.zero_le _, Nat.zero_le _⟩ rfl (Nat.le_of_ble_eq_true rfl) d_Mo_all_54 (fun C' H locs hp w => ?_)
        subst hp
        obtain ⟨Mw2, eMw2⟩ : ∃ mm : Nat → Nat → Int, mm = va_up Mw1 46 (Mw1 41) := ⟨_, rfl⟩
        rw [← eMw2] at w
        rw [a41] at eMw2
        have hW2 : WR Mw2 := by rw [eMw2]; exact hW1.up ((hq9.2.mono (by omega)).ok hpr.2)
        have b46 : Mw2 46 = (dvm pr inv S.1 cd).2 := by rw [eMw2, va_up_self]
        have bF : ∀ r, r ≠ 46 → Mw2 r = Mw1 r := fun r r1 => by rw [eMw2, va_up_ne _ _ r1]
        have b47 : Mw2 47 = cd := by rw [bF 47 (by decide), a47]
        have hK2 : moK cs ad th pr S.2 Mw2 B1 := ⟨hK.1, hK.2.1, fun i hi => by rw [bF _ (by omega), aF _ (by omega) (by omega)]; exact hK.2.2 i hi⟩
        refine lv_aload_n X.1 X.2.1 d_Mo_all_57 rfl (lv_at hl 0 rfl) ?_
        refine lv_aload_n X.1 X.2.1 d_Mo_all_58 rfl (lv_at hl 0 rfl) ?_
        refine m_get X hT w hB 12 (by decide) k_f_Mo_49 rfl d_Mo_all_59 ?_
        refine lv_iconst (v := iI (1)) X.1 X.2.1 d_Mo_all_62 (by decide) ?_
        refine w_cVv (n := 2) (i := 132) (ci := 5) (As := [.ref (ad (138 + 47)), .int (iI (1))]) (rest := []) X w hml hl.1 (c_Mo_note hT (M := Mw2) (B := B1) hK2 (a := 47) (n := 1) (by omega) (by omega) hW2) (by omega) (by rw [mkR_B (by decide)]; exact hB.1) rfl k_m_Mo_115 k_im_Mo_note k_se_Mo_note k_i_Mo k_co_Mo_note (by decide +kernel) rfl ⟨Nat.le_of_ble_eq_true rfl, Nat.le_of_ble_eq_true rfl⟩ ⟨rfl, rfl⟩ ⟨Nat.zero_le _, Nat.zero_le _⟩ rfl (Nat.le_of_ble_eq_true rfl) d_Mo_all_63 (fun C' H locs hp w => ?_)
        obtain ⟨M3, B3, rfl, hK3, hW3, g1, g2⟩ := hp
        rw [b47] at hK3
        refine lv_goto (tgt := 20) X.1 X.2.1 d_Mo_all_66 (by decide) ?_
        rw [if_neg (by omega)] at hz
        have hn9 : dg 300 (dvm pr inv S.1 cd).1 < 0 := by
          by_cases h : dg 300 (dvm pr inv S.1 cd).1 < 0
          · exact h
          · rw [if_neg h] at h_43; exact absurd rfl h_43
        rw [if_pos hn9] at hz
        have hqd := dvq_dg hI hS hcd (by omega) (by omega) (show dg 300 cd ≤ dg 300 S.1 by omega)
        rw [hde] at hqd
        refine ih _ M3 B3 H locs ls w hz ?_ (by rw [g1 46 (by omega), b46]) (by rw [g1 47 (by omega), b47]) hK3 hW3 hq9.2 ?_ (fun r r1 r2 r3 => by rw [g1 r (by omega), bF r r2, aF r (by omega) (by omega)]; exact f1 r r1 r2 r3) (fun i i1 i2 => by rw [g2 i i1 i2]; exact f2 i i1 i2) (lv_sub hl [0, 1, 2] rfl)
        · show dg 300 (dvm pr inv S.1 cd).2 < f; omega
        · show ((noteK S.2 cd 1).1 : Int) + dg 300 (dvm pr inv S.1 cd).2 ≤ 24; omega
theorem l_Mo_all_71 (X : Cx p s m args c b_Mo_all RMo) (hml : c.maxLocals = 4) (hT : 213 ≤ T) (hB : moO cs ad th pr fc B) {q n0 : Nat} (hq : pr = (q : Int)) (hq2 : 2 ≤ q ∧ q ≤ 13) (he : 1 ≤ e0 ∧ e0 ≤ 24)
    (K : ∀ (k : Nat) (M1 : Nat → Nat → Int) (H : Heap) (locs : List Loc) (ls : Array Slot), Wd D cs A ad T s (mkR cs M1 B) H locs → k ≤ e0 → (∀ x, x < k → n0 / q ^ x % q = q - 1) → (k < e0 → n0 / q ^ k % q ≠ q - 1) → (M1 47 = fun x => if x < k then 0 else cand q e0 n0 x) → (∀ r, r ≠ 47 → M1 r = M r) → lv_has ls 4 [(0, .ref (ad (132))), (1, .int (iI (e0))), (2, .int (iI (1))), (3, .int (iI (k)))] → W p l e { frames := 3, cells := 0, slots := 0, locals := 71 } s m args below meth c H locs 0 0 Q (F0 m 104 ls [])) :
    ∀ (n k : Nat) (M1 : Nat → Nat → Int) (H : Heap) (locs : List Loc) (ls : Array Slot), k + n = e0 → Wd D cs A ad T s (mkR cs M1 B) H locs → (∀ x, x < k → n0 / q ^ x % q = q - 1) → (M1 47 = fun x => if x < k then 0 else cand q e0 n0 x) → (∀ r, r ≠ 47 → M1 r = M r) → lv_has ls 4 [(0, .ref (ad (132))), (1, .int (iI (e0))), (2, .int (iI (1))), (3, .int (iI (k)))] → W p l e { frames := 3, cells := 0, slots := 0, locals := 71 } s m args below meth c H locs 0 0 Q (F0 m 71 ls []) := by
  intro n
  induction n with
  | zero =>
    intro k M1 H locs ls h1 w h2 h3 h4 hl
    refine lv_iload_n X.1 X.2.1 d_Mo_all_71 rfl (lv_at hl 3 rfl) ?_
    refine lv_iload_n X.1 X.2.1 d_Mo_all_72 rfl (lv_at hl 1 rfl) ?_
    refine i_ge (a := k) (b := e0) (tgt := 104) X (by omega) (by omega) d_Mo_all_73 (by decide) (fun h_73 => ?_) (fun h_73 => ?_)
    · exact K k M1 H locs ls w (by omega) h2 (fun h => by omega) h3 h4 (lv_sub hl [0, 1, 2, 3] rfl)
    · exact absurd h_73 (by omega)
  | succ n ih =>
    intro k M1 H locs ls h1 w h2 h3 h4 hl
    have hml := Nat.mod_lt (n0 / q ^ k) (show 0 < q by omega)
    have ek : M1 47 k = ((n0 / q ^ k % q : Nat) : Int) := by
      rw [h3]
      show (if k < k then 0 else cand q e0 n0 k) = _
      rw [if_neg (by omega)]
      unfold cand
      rw [if_pos (by omega)]
    obtain ⟨dk, hdk⟩ : ∃ dk : Nat, dk = n0 / q ^ k % q := ⟨_, rfl⟩
    rw [← hdk] at ek hml
    refine lv_iload_n X.1 X.2.1 d_Mo_all_71 rfl (lv_at hl 3 rfl) ?_
    refine lv_iload_n X.1 X.2.1 d_Mo_all_72 rfl (lv_at hl 1 rfl) ?_
    refine i_ge (a := k) (b := e0) (tgt := 104) X (by omega) (by omega) d_Mo_all_73 (by decide) (fun h_73 => ?_) (fun h_73 => ?_)
    · exact absurd h_73 (by omega)
    · refine lv_aload_n X.1 X.2.1 d_Mo_all_76 rfl (lv_at hl 0 rfl) ?_
      refine m_get X hT w hB 12 (by decide) k_f_Mo_49 rfl d_Mo_all_77 ?_
      refine lv_iload_n X.1 X.2.1 d_Mo_all_80 rfl (lv_at hl 3 rfl) ?_
      refine m_ld (r := 47) (z := k) X hT w (by omega) (k) (by omega) (by omega) d_Mo_all_81 ?_
      refine lv_aload_n X.1 X.2.1 d_Mo_all_82 rfl (lv_at hl 0 rfl) ?_
      refine m_get X hT w hB 1 (by decide) k_f_Mo_13 rfl d_Mo_all_83 ?_
      refine lv_iconst (v := iI (1)) X.1 X.2.1 d_Mo_all_86 (by decide) ?_
      refine i_sub (a := pr) (b := 1) X d_Mo_all_87 ?_
      refine i_ne (a := M1 47 k) (b := pr - 1) (tgt := 104) X (by omega) (by omega) d_Mo_all_88 (by decide) (fun h_88 => ?_) (fun h_88 => ?_)
      · exact K k M1 H locs ls w (by omega) h2 (fun _ => by rw [← hdk]; omega) h3 h4 (lv_sub hl [0, 1, 2, 3] rfl)
      · refine lv_aload_n X.1 X.2.1 d_Mo_all_91 rfl (lv_at hl 0 rfl) ?_
        refine m_get X hT w hB 12 (by decide) k_f_Mo_49 rfl d_Mo_all_92 ?_
        refine lv_iload_n X.1 X.2.1 d_Mo_all_95 rfl (lv_at hl 3 rfl) ?_
        refine i_inc (k := 3) (x := k) (lv' := [(3, .int (iI (k + 1))), (0, .ref (ad (132))), (1, .int (iI (e0))), (2, .int (iI (1)))]) X d_Mo_all_96 hl rfl (by decide) rfl (fun ls hl => ?_)
        refine lv_iconst (v := iI (0)) X.1 X.2.1 d_Mo_all_99 (by decide) ?_
        refine m_st (r := 47) (z := k) (v := 0) X hT w (by omega) (k) (by omega) (by omega) d_Mo_all_100 (fun H locs w => ?_)
        obtain ⟨Mw1, eMw1⟩ : ∃ mm : Nat → Nat → Int, mm = va_up M1 47 (va_up (M1 47) k (0)) := ⟨_, rfl⟩
        rw [← eMw1] at w
        refine lv_goto (tgt := 71) X.1 X.2.1 d_Mo_all_101 (by decide) ?_
        have hdq : dk = q - 1 := by omega
        refine ih (k + 1) Mw1 H locs ls (by omega) w (fun x hx => ?_) ?_ (fun r hr9 => by rw [eMw1, va_up_ne _ _ hr9]; exact h4 r hr9) (lv_sub hl [1, 2, 3, 0] rfl)
        · by_cases e9 : x = k
          · rw [e9, ← hdk]; exact hdq
          · exact h2 x (by omega)
        · rw [eMw1, va_up_self]
          funext x
          by_cases e9 : x = k
          · rw [e9, va_up_self]; show _ = if k < k + 1 then (0 : Int) else _; rw [if_pos (by omega)]
          · rw [va_up_ne _ _ e9, h3]
            show (if x < k then (0 : Int) else _) = if x < k + 1 then (0 : Int) else _
            split <;> split <;> first | rfl | (exfalso; omega)
theorem l_Mo_all_16 (X : Cx p s m args c b_Mo_all RMo) (hr : meth.sig.returnType = none) (hlk : meth.locks = false) (hml : c.maxLocals = 4) (hT : 213 ≤ T) (hI : invP pr inv) {q : Nat} (hq : pr = (q : Int)) (he : 1 ≤ e0 ∧ e0 ≤ 24) {Z : WK} :
    ∀ (n n0 : Nat) (S : WK) (M1 : Nat → Nat → Int) (B1 : Nat → va_E) (H : Heap) (locs : List Loc) (ls : Array Slot), n0 + n = q ^ e0 → 1 ≤ n → Wd D cs A ad T s (mkR cs M1 B1) H locs → allL pr inv e0 n n0 S = Z → M1 46 = S.1 → M1 47 = cand q e0 n0 → moK cs ad th pr S.2 M1 B1 → WR M1 → okp pr 25 S.1 → (S.2.1 : Int) + dg 300 S.1 ≤ 24 → (∀ r, r < 16 ∨ 43 ≤ r → r ≠ 46 → r ≠ 47 → M1 r = M r) → (∀ i, i ≠ 132 → i ≠ 135 → B1 i = B i) → lv_has ls 4 [(0, .ref (ad (132))), (1, .int (iI (e0))), (2, .int (iI (1)))] → W p l e { frames := 3, cells := 0, slots := 0, locals := 71 } s m args below meth c H locs 0 0 (MQ below (va_Qv (fun C' => ∃ M1 B1, C' = mkR cs M1 B1 ∧ M1 46 = Z.1 ∧ moK cs ad th pr Z.2 M1 B1 ∧ WR M1 ∧ okp pr 25 Z.1 ∧ (Z.2.1 : Int) + dg 300 Z.1 ≤ 24 ∧ (∀ r, r < 16 ∨ 43 ≤ r → r ≠ 46 → r ≠ 47 → M1 r = M r) ∧ (∀ i, i ≠ 132 → i ≠ 135 → B1 i = B i)) (QW D cs ad T) A) args s 0 0 A) (F0 m 16 ls []) := by
  have hpr := hI.1
  have hq2 : 2 ≤ q ∧ q ≤ 13 := by omega
  intro n
  induction n with
  | zero => intro n0 S M1 B1 H locs ls _ h; omega
  | succ n ih =>
    intro n0 S M1 B1 H locs ls h1 _ w hz h46 h47 hK hW hS hs f1 f2 hl
    have hco : okp pr 25 (cand q e0 n0) := by rw [hq]; exact cand_ok hq2.1 (by omega)
    have hz : (if 2 * (e0 : Int) ≤ dg 300 (tkN pr inv e0 (cand pr.toNat e0 n0) 25 S).1 then allL pr inv e0 n (n0 + 1) (tkN pr inv e0 (cand pr.toNat e0 n0) 25 S) else tkN pr inv e0 (cand pr.toNat e0 n0) 25 S) = Z := hz
    rw [show pr.toNat = q by omega] at hz
    obtain ⟨Y, hY⟩ : ∃ Y : WK, Y = tkN pr inv e0 (cand q e0 n0) 25 S := ⟨_, rfl⟩
    rw [← hY] at hz
    have hdS := (hS.ok hpr.2).dlt 300
    refine lv_iload_n X.1 X.2.1 d_Mo_all_16 rfl (lv_at hl 2 rfl) ?_
    refine z_eq (a := 1) (tgt := 145) X (by omega) d_Mo_all_17 (by decide) (fun h_17 => ?_) (fun h_17 => ?_)
    · exact absurd h_17 (by omega)
    · refine l_Mo_all_20 (M := M) (B := B) (e0 := e0) (cd := cand q e0 n0) (Z := Y) X hml hT hI he hco (cand_dg (by omega)) (fun M2 B2 H locs ls w g1 g2 g3 g4 g5 g6 g7 g8 hl => ?_) 25 S M1 B1 H locs ls w hY.symm (by omega) h46 h47 hK hW hS hs f1 f2 (lv_sub hl [0, 1, 2] rfl)
      refine lv_iconst (v := iI (0)) X.1 X.2.1 d_Mo_all_69 (by decide) ?_
      refine lv_istore_n (lv' := [(3, .int (iI (0))), (0, .ref (ad (132))), (1, .int (iI (e0))), (2, .int (iI (1)))]) X.1 X.2.1 d_Mo_all_70 rfl hl (by decide) rfl (fun ls hl => ?_)
      refine l_Mo_all_71 (M := M2) (B := B2) (e0 := e0) (n0 := n0) X hml hT g3.1 hq hq2 he (fun k M3 H locs ls w k0 k1 k2 k3 k4 hl => ?_) e0 0 M2 H locs ls (by omega) w (fun x hx => by omega) (by rw [g2]; rfl) (fun _ _ => rfl) (lv_sub hl [1, 2, 3, 0] rfl)
      have hB := g3.1
      have hW3 : WR M3 := by
        have e9 : M3 = va_up M2 47 (fun x => if x < k then 0 else cand q e0 n0 x) := by
          funext r
          by_cases e9 : r = 47
          · rw [e9, va_up_self, k3]
          · rw [va_up_ne _ _ e9, k4 r e9]
        rw [e9]
        refine g4.up ⟨fun x => ?_, fun x hx => ?_⟩
        · show 0 ≤ (if x < k then (0 : Int) else cand q e0 n0 x) ∧ (if x < k then (0 : Int) else cand q e0 n0 x) < 13
          have := (cand_ok (c := n0) hq2.1 (show e0 < 50 by omega)).1 x
          split <;> omega
        · show (if x < k then (0 : Int) else cand q e0 n0 x) = 0
          rw [if_neg (by omega)]
          exact (cand_ok (c := n0) hq2.1 (show e0 < 50 by omega)).2 x hx
      have hdY := (g5.ok hpr.2).dlt 300
      have hdY0 := dg_ge 300 Y.1
      refine lv_iload_n X.1 X.2.1 d_Mo_all_104 rfl (lv_at hl 3 rfl) ?_
      refine lv_iload_n X.1 X.2.1 d_Mo_all_105 rfl (lv_at hl 1 rfl) ?_
      refine i_ge (a := k) (b := e0) (tgt := 126) X (by omega) (by omega) d_Mo_all_106 (by decide) (fun h_106 => ?_) (fun h_106 => ?_)
      · refine lv_iconst (v := iI (0)) X.1 X.2.1 d_Mo_all_126 (by decide) ?_
        refine lv_istore_n (lv' := [(2, .int (iI (0))), (0, .ref (ad (132))), (1, .int (iI (e0))), (3, .int (iI (k)))]) X.1 X.2.1 d_Mo_all_127 rfl hl (by decide) rfl (fun ls hl => ?_)
        refine lv_iload_n X.1 X.2.1 d_Mo_all_128 rfl (lv_at hl 0 rfl) ?_
        refine z_eq (a := 0) (tgt := 142) X (by omega) d_Mo_all_129 (by decide) (fun h_129 => ?_) (fun h_129 => ?_)
        · refine lv_goto (tgt := 16) X.1 X.2.1 d_Mo_all_142 (by decide) ?_
          refine lv_iload_n X.1 X.2.1 d_Mo_all_16 rfl (lv_at hl 0 rfl) ?_
          refine z_eq (a := 0) (tgt := 145) X (by omega) d_Mo_all_17 (by decide) (fun h_17 => ?_) (fun h_17 => ?_)
          · have hzY : Z = Y := by
              have e9 : k = e0 := by omega
              have e8 := low_all hq2.1 k k1
              rw [e9, Nat.mod_eq_of_lt (by omega)] at e8
              have e7 : n = 0 := by omega
              subst e7
              rw [← hz]
              split <;> rfl
            refine w_vret X hr hlk w ⟨M3, B2, rfl, by rw [k4 46 (by decide), g1, hzY], by rw [hzY]; exact ⟨g3.1, g3.2.1, fun i hi => by rw [k4 _ (by omega)]; exact g3.2.2 i hi⟩, hW3, by rw [hzY]; exact g5, by rw [hzY]; exact g6, fun r r1 r2 r3 => by rw [k4 r r3]; exact g7 r r1 r2 r3, g8⟩ d_Mo_all_145
          · exact absurd h_17 (by omega)
        · exact absurd h_129 (by omega)
      · refine lv_aload_n X.1 X.2.1 d_Mo_all_109 rfl (lv_at hl 0 rfl) ?_
        refine m_get X hT w hB 11 (by decide) k_f_Mo_46 rfl d_Mo_all_110 ?_
        refine w_cSi (n := 1) (As := [.ref (ad (138 + 46))]) (rest := []) X w hml hl.1 (c_Mo_degree hT (M := M3) (B := B2) (a := 46) (by omega) (by rw [k4 46 (by decide), g1]; exact (g5.mono (by omega)).ok hpr.2)) k_m_Mo_80 k_st_Mo_degree k_i_Mo k_co_Mo_degree (by decide +kernel) rfl ⟨Nat.le_of_ble_eq_true rfl, Nat.le_of_ble_eq_true rfl⟩ ⟨rfl, rfl⟩ ⟨Nat.zero_le _, Nat.zero_le _⟩ rfl (Nat.le_of_ble_eq_true rfl) d_Mo_all_113 (fun r' C' H locs hp w => ?_)
        obtain ⟨rfl, rfl⟩ := hp
        rw [k4 46 (by decide), g1]
        refine lv_iconst (v := iI (2)) X.1 X.2.1 d_Mo_all_116 (by decide) ?_
        refine lv_iload_n X.1 X.2.1 d_Mo_all_117 rfl (lv_at hl 1 rfl) ?_
        refine i_mul (a := 2) (b := e0) X d_Mo_all_118 ?_
        refine i_lt (a := dg 300 Y.1) (b := 2 * e0) (tgt := 126) X (by omega) (by omega) d_Mo_all_119 (by decide) (fun h_119 => ?_) (fun h_119 => ?_)
        · refine lv_iconst (v := iI (0)) X.1 X.2.1 d_Mo_all_126 (by decide) ?_
          refine lv_istore_n (lv' := [(2, .int (iI (0))), (0, .ref (ad (132))), (1, .int (iI (e0))), (3, .int (iI (k)))]) X.1 X.2.1 d_Mo_all_127 rfl hl (by decide) rfl (fun ls hl => ?_)
          refine lv_iload_n X.1 X.2.1 d_Mo_all_128 rfl (lv_at hl 0 rfl) ?_
          refine z_eq (a := 0) (tgt := 142) X (by omega) d_Mo_all_129 (by decide) (fun h_129 => ?_) (fun h_129 => ?_)
          · refine lv_goto (tgt := 16) X.1 X.2.1 d_Mo_all_142 (by decide) ?_
            refine lv_iload_n X.1 X.2.1 d_Mo_all_16 rfl (lv_at hl 0 rfl) ?_
            refine z_eq (a := 0) (tgt := 145) X (by omega) d_Mo_all_17 (by decide) (fun h_17 => ?_) (fun h_17 => ?_)
            · have hzY : Z = Y := by
                rw [← hz, if_neg (by omega)]
              refine w_vret X hr hlk w ⟨M3, B2, rfl, by rw [k4 46 (by decide), g1, hzY], by rw [hzY]; exact ⟨g3.1, g3.2.1, fun i hi => by rw [k4 _ (by omega)]; exact g3.2.2 i hi⟩, hW3, by rw [hzY]; exact g5, by rw [hzY]; exact g6, fun r r1 r2 r3 => by rw [k4 r r3]; exact g7 r r1 r2 r3, g8⟩ d_Mo_all_145
            · exact absurd h_17 (by omega)
          · exact absurd h_129 (by omega)
        · refine lv_iconst (v := iI (1)) X.1 X.2.1 d_Mo_all_122 (by decide) ?_
          refine lv_goto (tgt := 127) X.1 X.2.1 d_Mo_all_123 (by decide) ?_
          refine lv_istore_n (lv' := [(2, .int (iI (1))), (0, .ref (ad (132))), (1, .int (iI (e0))), (3, .int (iI (k)))]) X.1 X.2.1 d_Mo_all_127 rfl hl (by decide) rfl (fun ls hl => ?_)
          refine lv_iload_n X.1 X.2.1 d_Mo_all_128 rfl (lv_at hl 0 rfl) ?_
          refine z_eq (a := 1) (tgt := 142) X (by omega) d_Mo_all_129 (by decide) (fun h_129 => ?_) (fun h_129 => ?_)
          · exact absurd h_129 (by omega)
          · refine lv_aload_n X.1 X.2.1 d_Mo_all_132 rfl (lv_at hl 1 rfl) ?_
            refine m_get X hT w hB 12 (by decide) k_f_Mo_49 rfl d_Mo_all_133 ?_
            refine lv_iload_n X.1 X.2.1 d_Mo_all_136 rfl (lv_at hl 3 rfl) ?_
            refine lv_dup2_11 X.1 X.2.1 d_Mo_all_137 rfl rfl ?_
            refine m_ld (r := 47) (z := k) X hT w (by omega) (k) (by omega) (by omega) d_Mo_all_138 ?_
            refine lv_iconst (v := iI (1)) X.1 X.2.1 d_Mo_all_139 (by decide) ?_
            refine i_add (a := M3 47 k) (b := 1) X d_Mo_all_140 ?_
            refine m_st (r := 47) (z := k) (v := (M3 47 k) + 1) X hT w (by omega) (k) (by omega) (by omega) d_Mo_all_141 (fun H locs w => ?_)
            obtain ⟨Mw1, eMw1⟩ : ∃ mm : Nat → Nat → Int, mm = va_up M3 47 (va_up (M3 47) k ((M3 47 k) + 1)) := ⟨_, rfl⟩
            rw [← eMw1] at w
            have hup : Mw1 47 = cand q e0 (n0 + 1) := by
              rw [eMw1, va_up_self]
              funext x
              have hdx := cand_digits hq2.1 k1 (k2 (by omega)) x
              unfold cand
              by_cases e9 : x = k
              · subst e9
                rw [va_up_self, k3]
                show (if x < x then (0 : Int) else cand q e0 n0 x) + 1 = _
                rw [if_neg (by omega), if_pos (by omega), hdx, if_neg (by omega), if_pos rfl]
                unfold cand
                rw [if_pos (by omega)]
                omega
              · rw [va_up_ne _ _ e9, k3]
                show (if x < k then (0 : Int) else cand q e0 n0 x) = _
                rw [hdx]
                by_cases e8 : x < k
                · rw [if_pos e8, if_pos (by omega), if_pos e8]; rfl
                · rw [if_neg e8, if_neg e8, if_neg e9]; rfl
            refine lv_goto (tgt := 16) X.1 X.2.1 d_Mo_all_142 (by decide) ?_
            have hnm := cand_more hq2.1 (show k < e0 by omega) k1 (k2 (by omega))
            rw [if_pos (by omega)] at hz
            refine ih (n0 + 1) Y Mw1 B2 H locs ls (by omega) (by omega) w hz (by rw [eMw1, va_up_ne _ _ (by decide), k4 46 (by decide), g1]) ?_ ⟨g3.1, g3.2.1, fun i hi => by rw [eMw1, va_up_ne _ _ (by omega), k4 _ (by omega)]; exact g3.2.2 i hi⟩ ?_ g5 g6 (fun r r1 r2 r3 => by rw [eMw1, va_up_ne _ _ r3, k4 r r3]; exact g7 r r1 r2 r3) g8 (lv_sub hl [1, 2, 0] rfl)
            · exact hup
            · rw [eMw1]; rw [eMw1, va_up_self] at hup; rw [hup]; exact hW3.up ((cand_ok hq2.1 (by omega)).ok (by omega))
end MAL
theorem c_Mo_all {l : Launch} {D : va_G} {cs : Nat → ClassId} {A : Nat → Prop} {ad : Nat → Nat} {T : Nat} (hT : 213 ≤ T) {M : Nat → Nat → Int} {B : Nat → va_E} {th pr : Int} {K : KS} (hK : moK cs ad th pr K M B) {inv : Nat → Int} (hI : invP pr inv) {e0 : Nat} (he : 1 ≤ e0 ∧ e0 ≤ 24) (hW : WR M) (hS : okp pr 25 (M 46)) (hs : (K.1 : Int) + dg 300 (M 46) ≤ 24) {Z : WK} (hZ : allL pr inv e0 (pr.toNat ^ e0) 0 (M 46, K) = Z) : Cv l y_Mo_all ws_Mo_all { frames := 3, cells := 0, slots := 0, locals := 71 } D cs A ad T [.ref (ad (132)), .int (iI (e0))] (mkR cs M B) (fun C' => ∃ M1 B1, C' = mkR cs M1 B1 ∧ M1 46 = Z.1 ∧ moK cs ad th pr Z.2 M1 B1 ∧ WR M1 ∧ okp pr 25 Z.1 ∧ (Z.2.1 : Int) + dg 300 Z.1 ≤ 24 ∧ (∀ r, r < 16 ∨ 43 ≤ r → r ≠ 46 → r ≠ 47 → M1 r = M r) ∧ (∀ i, i ≠ 132 → i ≠ 135 → B1 i = B i)) := by
  refine w_bodyV (by decide) (Nat.le_of_ble_eq_true rfl) ?_
  intro p e s m below meth c X hr hlk hml w ls hl
  have hl : lv_has ls 4 [(0, .ref (ad (132))), (1, .int (iI (e0)))] := hl
  have hpr := hI.1
  have hB := hK.1
  refine lv_aload_n X.1 X.2.1 d_Mo_all_0 rfl (lv_at hl 0 rfl) ?_
  refine m_get X hT w hB 12 (by decide) k_f_Mo_49 rfl d_Mo_all_1 ?_
  refine w_cSv (n := 1) (As := [.ref (ad (138 + 47))]) (rest := []) X w hml hl.1 (c_Mo_clear hT (M := M) (B := B) (a := 47) (by omega) hW) k_m_Mo_69 k_st_Mo_clear k_i_Mo k_co_Mo_clear (by decide +kernel) rfl ⟨Nat.le_of_ble_eq_true rfl, Nat.le_of_ble_eq_true rfl⟩ ⟨rfl, rfl⟩ ⟨Nat.zero_le _, Nat.zero_le _⟩ rfl (Nat.le_of_ble_eq_true rfl) d_Mo_all_4 (fun C' H locs hp w => ?_)
  subst hp
  obtain ⟨Mw1, eMw1⟩ : ∃ mm : Nat → Nat → Int, mm = va_up M 47 (fun _ => 0) := ⟨_, rfl⟩
  rw [← eMw1] at w
  refine lv_aload_n X.1 X.2.1 d_Mo_all_7 rfl (lv_at hl 0 rfl) ?_
  refine m_get X hT w hB 12 (by decide) k_f_Mo_49 rfl d_Mo_all_8 ?_
  refine lv_iload_n X.1 X.2.1 d_Mo_all_11 rfl (lv_at hl 1 rfl) ?_
  refine lv_iconst (v := iI (1)) X.1 X.2.1 d_Mo_all_12 (by decide) ?_
  refine m_st (r := 47) (z := e0) (v := 1) X hT w (by omega) (e0) (by omega) (by omega) d_Mo_all_13 (fun H locs w => ?_)
  obtain ⟨Mw2, eMw2⟩ : ∃ mm : Nat → Nat → Int, mm = va_up Mw1 47 (va_up (Mw1 47) e0 (1)) := ⟨_, rfl⟩
  rw [← eMw2] at w
  refine lv_iconst (v := iI (1)) X.1 X.2.1 d_Mo_all_14 (by decide) ?_
  refine lv_istore_n (lv' := [(2, .int (iI (1))), (0, .ref (ad (132))), (1, .int (iI (e0)))]) X.1 X.2.1 d_Mo_all_15 rfl hl (by decide) rfl (fun ls hl => ?_)
  have e47 : Mw2 47 = cand pr.toNat e0 0 := by
    rw [eMw2, va_up_self, eMw1, va_up_self]
    funext x
    unfold cand
    by_cases e9 : x = e0
    · rw [e9, va_up_self, if_neg (by omega), if_pos rfl]
    · rw [va_up_ne _ _ e9, if_neg e9]; split
      · rw [Nat.zero_div, Nat.zero_mod]; rfl
      · rfl
  have eF : ∀ r, r ≠ 47 → Mw2 r = M r := fun r r1 => by rw [eMw2, va_up_ne _ _ r1, eMw1, va_up_ne _ _ r1]
  have hW2 : WR Mw2 := by
    have e9 : Mw2 = va_up M 47 (cand pr.toNat e0 0) := by
      funext r
      by_cases e9 : r = 47
      · rw [e9, va_up_self, e47]
      · rw [va_up_ne _ _ e9, eF r e9]
    rw [e9]
    exact hW.up ((cand_ok (by omega) (by omega)).ok (by omega))
  exact l_Mo_all_16 (M := M) (B := B) (Z := Z) X hr hlk hml hT hI (q := pr.toNat) (by omega) he (pr.toNat ^ e0) 0 (M 46, K) Mw2 B _ _ ls (by omega) (Nat.pow_pos (by omega)) w hZ (eF 46 (by decide)) e47 ⟨hB, hK.2.1, fun i hi => by rw [eF _ (by omega)]; exact hK.2.2 i hi⟩ hW2 hS hs (fun r _ _ r3 => eF r r3) (fun _ _ _ => rfl) (lv_sub hl [1, 2, 0] rfl)
