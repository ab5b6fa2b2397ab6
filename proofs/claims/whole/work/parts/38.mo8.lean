/-- the reference's list of factors -/
def moK (cs : Nat → ClassId) (ad : Nat → Nat) (th pr : Int) (K : KS) (M : Nat → Nat → Int) (B : Nat → va_E) : Prop := moO cs ad th pr ((K.1 : Nat) : Int) B ∧ B 135 = aI cs 25 K.2.2 ∧ ∀ i, i < 25 → M (16 + i) = K.2.1 i
theorem moO.oft {cs : Nat → ClassId} {ad : Nat → Nat} {th pr fc : Int} {B : Nat → va_E} (h : moO cs ad th pr fc B) (x : va_E) : moO cs ad th pr fc (va_up B 135 x) := ⟨by rw [va_up_ne _ _ (by decide)]; exact h.1, by rw [va_up_ne _ _ (by decide)]; exact h.2.1, by rw [va_up_ne _ _ (by decide)]; exact h.2.2⟩
section MOF
variable {p : Program} {l : Launch} {e : Env} {R : Room} {s : State} {m : MethodId} {args : Array Value} {below : List Frame} {meth : Method} {c : Code} {H : Heap} {locs : List Loc} {cells slots : Nat} {Q : State → Prop} {D : va_G} {cs : Nat → ClassId} {A : Nat → Prop} {ad : Nat → Nat} {T : Nat}
variable {cc : ByteArray} {own : String} {pc : Nat} {ls : Array Slot} {rest st : List Value} {M : Nat → Nat → Int} {B : Nat → va_E}
theorem m_old {z : Int} {F : Nat → Int} (X : Cx p s m args c cc own) (hT : 213 ≤ T) (w : Wd D cs A ad T s (mkR cs M B) H locs) (h5 : B 135 = aI cs 25 F) (j : Nat) (hz : z = (j : Int)) (hj : j < 25) (hdg : decode cc pc = .ok (.iaload, 1))
    (kk : W p l e R s m args below meth c H locs cells slots Q (F0 m (pc + 1) ls (.int (iI (F j)) :: rest))) : W p l e R s m args below meth c H locs cells slots Q (F0 m pc ls (.int (iI z) :: .ref (ad 135) :: rest)) :=
  w_ild X w (Nat.lt_of_lt_of_le (by omega) hT) (by rw [mkR_B (by decide)]; exact h5) j hz hj (by decide) hdg kk
theorem m_ost {z v : Int} {F : Nat → Int} (X : Cx p s m args c cc own) (hT : 213 ≤ T) (w : Wd D cs A ad T s (mkR cs M B) H locs) (h5 : B 135 = aI cs 25 F) (j : Nat) (hz : z = (j : Int)) (hj : j < 25) (hdg : decode cc pc = .ok (.iastore, 1))
    (kk : ∀ (H1 : Heap) (locs1 : List Loc), Wd D cs A ad T s (mkR cs M (va_up B 135 (aI cs 25 (va_up F j v)))) H1 locs1 → W p l e R s m args below meth c H1 locs1 cells slots Q (F0 m (pc + 1) ls rest)) : W p l e R s m args below meth c H locs cells slots Q (F0 m pc ls (.int (iI v) :: .int (iI z) :: .ref (ad 135) :: rest)) :=
  w_ist X w (Nat.lt_of_lt_of_le (by omega) hT) (by rw [mkR_B (by decide)]; exact h5) j hz hj (by decide) hdg (fun H1 locs1 h => kk H1 locs1 (by rw [mkR_sB (by decide)] at h; exact h))
end MOF
def fndK (F : Nat → Nat → Int) (a : Nat → Int) : Nat → Nat → Option Nat
  | 0, _ => none
  | n + 1, i => if samB (F i) a 50 then some i else fndK F a n (i + 1)
def insN (a : Nat → Int) (n : Int) : Nat → (Nat → Nat → Int) × (Nat → Int) → (Nat → Nat → Int) × (Nat → Int)
  | 0, s => (va_up s.1 0 a, va_up s.2 0 n)
  | k + 1, s => if bef a (s.1 k) then insN a n k (va_up s.1 (k + 1) (s.1 k), va_up s.2 (k + 1) (s.2 k)) else (va_up s.1 (k + 1) a, va_up s.2 (k + 1) n)
def noteK (K : KS) (a : Nat → Int) (n : Int) : KS :=
  match fndK K.2.1 a K.1 0 with
  | some i => (K.1, K.2.1, va_up K.2.2 i (K.2.2 i + n))
  | none => (K.1 + 1, insN a n K.1 K.2)
section MNO
variable {p : Program} {l : Launch} {e : Env} {s : State} {m : MethodId} {args : Array Value} {below : List Frame} {meth : Method} {c : Code} {H : Heap} {locs : List Loc} {Q : State → Prop} {D : va_G} {cs : Nat → ClassId} {A : Nat → Prop} {ad : Nat → Nat} {T : Nat} {B : Nat → va_E} {th pr fc : Int}
variable {a : Nat} {M : Nat → Nat → Int} {n : Int}
theorem l_Mo_note_55 (X : Cx p s m args c b_Mo_note RMo) (hml : c.maxLocals = 4) (hT : 213 ≤ T) (ha : 41 ≤ a ∧ a < 50) (hA : ok 50 (M a)) {Z : (Nat → Nat → Int) × (Nat → Int)}
    (K : ∀ (M1 : Nat → Nat → Int) (B1 : Nat → va_E) (H : Heap) (locs : List Loc) (ls : Array Slot), Wd D cs A ad T s (mkR cs M1 B1) H locs → moO cs ad th pr fc B1 → B1 135 = aI cs 25 Z.2 → (∀ i, i < 25 → M1 (16 + i) = Z.1 i) → WR M1 → (∀ r, r < 16 ∨ 41 ≤ r → M1 r = M r) → (∀ i, i ≠ 132 → i ≠ 135 → B1 i = B i) → W p l e { frames := 2, cells := 0, slots := 0, locals := 43 } s m args below meth c H locs 0 0 Q (F0 m 128 ls [])) :
    ∀ (k : Nat) (S : (Nat → Nat → Int) × (Nat → Int)) (M1 : Nat → Nat → Int) (B1 : Nat → va_E) (H : Heap) (locs : List Loc) (ls : Array Slot), k < 25 → Wd D cs A ad T s (mkR cs M1 B1) H locs → insN (M a) n k S = Z → moO cs ad th pr fc B1 → B1 135 = aI cs 25 S.2 → (∀ i, i < 25 → M1 (16 + i) = S.1 i) → WR M1 → (∀ r, r < 16 ∨ 41 ≤ r → M1 r = M r) → (∀ i, i ≠ 132 → i ≠ 135 → B1 i = B i) → lv_has ls 4 [(0, .ref (ad (132))), (1, .ref (ad (138 + a))), (2, .int (iI (n))), (3, .int (iI (k)))] → W p l e { frames := 2, cells := 0, slots := 0, locals := 43 } s m args below meth c H locs 0 0 Q (F0 m 55 ls []) := by
  have kk : ∀ (k : Nat) (S : (Nat → Nat → Int) × (Nat → Int)) (M1 : Nat → Nat → Int) (B1 : Nat → va_E) (H : Heap) (locs : List Loc) (ls : Array Slot), k < 25 → Wd D cs A ad T s (mkR cs M1 B1) H locs → (va_up S.1 k (M a), va_up S.2 k n) = Z → moO cs ad th pr fc B1 → B1 135 = aI cs 25 S.2 → (∀ i, i < 25 → M1 (16 + i) = S.1 i) → WR M1 → (∀ r, r < 16 ∨ 41 ≤ r → M1 r = M r) → (∀ i, i ≠ 132 → i ≠ 135 → B1 i = B i) → lv_has ls 4 [(0, .ref (ad (132))), (1, .ref (ad (138 + a))), (2, .int (iI (n))), (3, .int (iI (k)))] → W p l e { frames := 2, cells := 0, slots := 0, locals := 43 } s m args below meth c H locs 0 0 Q (F0 m 111 ls []) := by
    intro k S M1 B1 H locs ls hk w hz hB h5 hR hW f1 f2 hl
    have ea : M1 a = M a := f1 a (by omega)
    refine lv_aload_n X.1 X.2.1 d_Mo_note_111 rfl (lv_at hl 1 rfl) ?_
    refine lv_aload_n X.1 X.2.1 d_Mo_note_112 rfl (lv_at hl 0 rfl) ?_
    refine m_get X hT w hB 3 (by decide) k_f_Mo_21 rfl d_Mo_note_113 ?_
    refine lv_iload_n X.1 X.2.1 d_Mo_note_116 rfl (lv_at hl 3 rfl) ?_
    refine m_aal (i := 134) (n := 25) (pl := fun i => 138 + (16 + i)) (z := k) X w (by omega) (by rw [mkR_B (by decide)]; exact hB.2.2) (k) (by omega) (by omega) (by decide) d_Mo_note_117 ?_
    refine w_cSv (n := 2) (As := [.ref (ad (138 + a)), .ref (ad (138 + ((16 + k))))]) (rest := []) X w hml hl.1 (c_Mo_copy hT (M := M1) (B := B1) (a := a) (b := 16 + k) (by omega) (by omega) hW) k_m_Mo_84 k_st_Mo_copy k_i_Mo k_co_Mo_copy (by decide +kernel) rfl ⟨Nat.le_of_ble_eq_true rfl, Nat.le_of_ble_eq_true rfl⟩ ⟨rfl, rfl⟩ ⟨Nat.zero_le _, Nat.zero_le _⟩ rfl (Nat.le_of_ble_eq_true rfl) d_Mo_note_118 (fun C' H locs hp w => ?_)
    subst hp
    obtain ⟨Mw1, eMw1⟩ : ∃ mm : Nat → Nat → Int, mm = va_up M1 (16 + k) (M1 a) := ⟨_, rfl⟩
    rw [← eMw1] at w
    rw [ea] at eMw1
    refine lv_aload_n X.1 X.2.1 d_Mo_note_121 rfl (lv_at hl 0 rfl) ?_
    refine m_get X hT w hB 4 (by decide) k_f_Mo_24 rfl d_Mo_note_122 ?_
    refine lv_iload_n X.1 X.2.1 d_Mo_note_125 rfl (lv_at hl 3 rfl) ?_
    refine lv_iload_n X.1 X.2.1 d_Mo_note_126 rfl (lv_at hl 2 rfl) ?_
    refine m_ost (z := k) (v := n) X hT w h5 (k) (by omega) (by omega) d_Mo_note_127 (fun H locs w => ?_)
    obtain ⟨Bw2, eBw2⟩ : ∃ bb : Nat → va_E, bb = va_up B1 135 (aI cs 25 (va_up S.2 k (n))) := ⟨_, rfl⟩
    rw [← eBw2] at w
    have hB := hB.oft (aI cs 25 (va_up S.2 k (n)))
    rw [← eBw2] at hB
    have h5 : Bw2 135 = aI cs 25 (va_up S.2 k (n)) := by rw [eBw2, va_up_self]
    subst hz
    refine K Mw1 Bw2 H locs ls w hB h5 (fun i hi => ?_) (by rw [eMw1]; exact hW.up hA) (fun r hr9 => by rw [eMw1, va_up_ne _ _ (by omega)]; exact f1 r hr9) (fun i i1 i2 => by rw [eBw2, va_up_ne _ _ i2]; exact f2 i i1 i2)
    rw [eMw1]
    by_cases e : i = k
    · rw [e, va_up_self]; exact (va_up_self _ _ _).symm
    · rw [va_up_ne _ _ (by omega)]; show _ = va_up S.1 k (M a) i; rw [va_up_ne _ _ e]; exact hR i hi
  intro k
  induction k with
  | zero =>
    intro S M1 B1 H locs ls hk w hz hB h5 hR hW f1 f2 hl
    refine lv_iload_n X.1 X.2.1 d_Mo_note_55 rfl (lv_at hl 3 rfl) ?_
    refine z_le (a := ((0 : Nat) : Int)) (tgt := 111) X (by omega) d_Mo_note_56 (by decide) (fun h_56 => ?_) (fun h_56 => ?_)
    · exact kk 0 S M1 B1 H locs ls (by omega) w hz hB h5 hR hW f1 f2 (lv_sub hl [0, 1, 2, 3] rfl)
    · exact absurd h_56 (by omega)
  | succ k ih =>
    intro S M1 B1 H locs ls hk w hz hB h5 hR hW f1 f2 hl
    have ea : M1 a = M a := f1 a (by omega)
    have ek : M1 (16 + k) = S.1 k := hR k (by omega)
    have hz : (if bef (M a) (S.1 k) then insN (M a) n k (va_up S.1 (k + 1) (S.1 k), va_up S.2 (k + 1) (S.2 k)) else (va_up S.1 (k + 1) (M a), va_up S.2 (k + 1) n)) = Z := hz
    refine lv_iload_n X.1 X.2.1 d_Mo_note_55 rfl (lv_at hl 3 rfl) ?_
    refine z_le (a := ((k + 1 : Nat) : Int)) (tgt := 111) X (by omega) d_Mo_note_56 (by decide) (fun h_56 => ?_) (fun h_56 => ?_)
    · exact absurd h_56 (by omega)
    · refine lv_aload_n X.1 X.2.1 d_Mo_note_59 rfl (lv_at hl 1 rfl) ?_
      refine lv_aload_n X.1 X.2.1 d_Mo_note_60 rfl (lv_at hl 0 rfl) ?_
      refine m_get X hT w hB 3 (by decide) k_f_Mo_21 rfl d_Mo_note_61 ?_
      refine lv_iload_n X.1 X.2.1 d_Mo_note_64 rfl (lv_at hl 3 rfl) ?_
      refine lv_iconst (v := iI (1)) X.1 X.2.1 d_Mo_note_65 (by decide) ?_
      refine i_sub (a := ((k + 1 : Nat) : Int)) (b := 1) X d_Mo_note_66 ?_
      refine m_aal (i := 134) (n := 25) (pl := fun i => 138 + (16 + i)) (z := ((k + 1 : Nat) : Int) - 1) X w (by omega) (by rw [mkR_B (by decide)]; exact hB.2.2) (k) (by omega) (by omega) (by decide) d_Mo_note_67 ?_
      refine w_cSi (n := 2) (As := [.ref (ad (138 + a)), .ref (ad (138 + ((16 + k))))]) (rest := []) X w hml hl.1 (c_Mo_before hT (M := M1) (B := B1) (a := a) (b := 16 + k) (by omega) (by omega) (hW _ (by omega)) (hW _ (by omega))) k_m_Mo_123 k_st_Mo_before k_i_Mo k_co_Mo_before (by decide +kernel) rfl ⟨Nat.le_of_ble_eq_true rfl, Nat.le_of_ble_eq_true rfl⟩ ⟨rfl, rfl⟩ ⟨Nat.zero_le _, Nat.zero_le _⟩ rfl (Nat.le_of_ble_eq_true rfl) d_Mo_note_68 (fun r' C' H locs hp w => ?_)
      obtain ⟨rfl, rfl⟩ := hp
      rw [ea, ek, bI_i]
      refine z_eq (a := if bef (M a) (S.1 k) then 1 else 0) (tgt := 111) X (by split <;> omega) d_Mo_note_71 (by decide) (fun h_71 => ?_) (fun h_71 => ?_)
      · have hb9 : bef (M a) (S.1 k) = false := by
          cases e8 : bef (M a) (S.1 k) with
          | false => rfl
          | true => rw [e8] at h_71; exact absurd h_71 (by decide)
        rw [hb9, if_neg (by decide)] at hz
        exact kk (k + 1) S M1 B1 H locs ls (by omega) w hz hB h5 hR hW f1 f2 (lv_sub hl [0, 1, 2, 3] rfl)
      · refine lv_aload_n X.1 X.2.1 d_Mo_note_74 rfl (lv_at hl 0 rfl) ?_
        refine m_get X hT w hB 3 (by decide) k_f_Mo_21 rfl d_Mo_note_75 ?_
        refine lv_iload_n X.1 X.2.1 d_Mo_note_78 rfl (lv_at hl 3 rfl) ?_
        refine lv_iconst (v := iI (1)) X.1 X.2.1 d_Mo_note_79 (by decide) ?_
        refine i_sub (a := ((k + 1 : Nat) : Int)) (b := 1) X d_Mo_note_80 ?_
        refine m_aal (i := 134) (n := 25) (pl := fun i => 138 + (16 + i)) (z := ((k + 1 : Nat) : Int) - 1) X w (by omega) (by rw [mkR_B (by decide)]; exact hB.2.2) (k) (by omega) (by omega) (by decide) d_Mo_note_81 ?_
        refine lv_aload_n X.1 X.2.1 d_Mo_note_82 rfl (lv_at hl 0 rfl) ?_
        refine m_get X hT w hB 3 (by decide) k_f_Mo_21 rfl d_Mo_note_83 ?_
        refine lv_iload_n X.1 X.2.1 d_Mo_note_86 rfl (lv_at hl 3 rfl) ?_
        refine m_aal (i := 134) (n := 25) (pl := fun i => 138 + (16 + i)) (z := ((k + 1 : Nat) : Int)) X w (by omega) (by rw [mkR_B (by decide)]; exact hB.2.2) (k + 1) (by omega) (by omega) (by decide) d_Mo_note_87 ?_
        refine w_cSv (n := 2) (As := [.ref (ad (138 + ((16 + k)))), .ref (ad (138 + ((16 + (k + 1)))))]) (rest := []) X w hml hl.1 (c_Mo_copy hT (M := M1) (B := B1) (a := 16 + k) (b := 16 + (k + 1)) (by omega) (by omega) hW) k_m_Mo_84 k_st_Mo_copy k_i_Mo k_co_Mo_copy (by decide +kernel) rfl ⟨Nat.le_of_ble_eq_true rfl, Nat.le_of_ble_eq_true rfl⟩ ⟨rfl, rfl⟩ ⟨Nat.zero_le _, Nat.zero_le _⟩ rfl (Nat.le_of_ble_eq_true rfl) d_Mo_note_88 (fun C' H locs hp w => ?_)
        subst hp
        obtain ⟨Mw1, eMw1⟩ : ∃ mm : Nat → Nat → Int, mm = va_up M1 (16 + (k + 1)) (M1 (16 + k)) := ⟨_, rfl⟩
        rw [← eMw1] at w
        rw [ek] at eMw1
        refine lv_aload_n X.1 X.2.1 d_Mo_note_91 rfl (lv_at hl 0 rfl) ?_
        refine m_get X hT w hB 4 (by decide) k_f_Mo_24 rfl d_Mo_note_92 ?_
        refine lv_iload_n X.1 X.2.1 d_Mo_note_95 rfl (lv_at hl 3 rfl) ?_
        refine lv_aload_n X.1 X.2.1 d_Mo_note_96 rfl (lv_at hl 0 rfl) ?_
        refine m_get X hT w hB 4 (by decide) k_f_Mo_24 rfl d_Mo_note_97 ?_
        refine lv_iload_n X.1 X.2.1 d_Mo_note_100 rfl (lv_at hl 3 rfl) ?_
        refine lv_iconst (v := iI (1)) X.1 X.2.1 d_Mo_note_101 (by decide) ?_
        refine i_sub (a := ((k + 1 : Nat) : Int)) (b := 1) X d_Mo_note_102 ?_
        refine m_old (z := ((k + 1 : Nat) : Int) - 1) X hT w h5 (k) (by omega) (by omega) d_Mo_note_103 ?_
        refine m_ost (z := ((k + 1 : Nat) : Int)) (v := S.2 k) X hT w h5 (k + 1) (by omega) (by omega) d_Mo_note_104 (fun H locs w => ?_)
        obtain ⟨Bw2, eBw2⟩ : ∃ bb : Nat → va_E, bb = va_up B1 135 (aI cs 25 (va_up S.2 (k + 1) (S.2 k))) := ⟨_, rfl⟩
        rw [← eBw2] at w
        have hB := hB.oft (aI cs 25 (va_up S.2 (k + 1) (S.2 k)))
        rw [← eBw2] at hB
        have h5 : Bw2 135 = aI cs 25 (va_up S.2 (k + 1) (S.2 k)) := by rw [eBw2, va_up_self]
        refine i_inc (k := 3) (x := ((k + 1 : Nat) : Int)) (lv' := [(3, .int (iI (((k + 1 : Nat) : Int) + (-1)))), (0, .ref (ad (132))), (1, .ref (ad (138 + a))), (2, .int (iI (n)))]) X d_Mo_note_105 hl rfl (by decide) rfl (fun ls hl => ?_)
        refine lv_goto (tgt := 55) X.1 X.2.1 d_Mo_note_108 (by decide) ?_
        have hb9 : bef (M a) (S.1 k) = true := by
          cases e8 : bef (M a) (S.1 k) with
          | true => rfl
          | false => rw [e8] at h_71; exact absurd rfl h_71
        rw [hb9, if_pos rfl] at hz
        refine ih (va_up S.1 (k + 1) (S.1 k), va_up S.2 (k + 1) (S.2 k)) Mw1 Bw2 H locs ls (by omega) w hz hB h5 (fun i hi => ?_) (by rw [eMw1]; exact hW.up (by rw [← ek]; exact hW _ (by omega))) (fun r hr9 => by rw [eMw1, va_up_ne _ _ (by omega)]; exact f1 r hr9) (fun i i1 i2 => by rw [eBw2, va_up_ne _ _ i2]; exact f2 i i1 i2) (by rw [show (k : Int) = ((k + 1 : Nat) : Int) + (-1) by omega]; exact (lv_sub hl [1, 2, 3, 0] rfl))
        rw [eMw1]
        by_cases e : i = k + 1
        · rw [e, va_up_self]; exact (va_up_self _ _ _).symm
        · rw [va_up_ne _ _ (by omega)]; show _ = va_up S.1 (k + 1) (S.1 k) i; rw [va_up_ne _ _ e]; exact hR i hi
end MNO
section MNP
variable {p : Program} {l : Launch} {e : Env} {s : State} {m : MethodId} {args : Array Value} {below : List Frame} {meth : Method} {c : Code} {H : Heap} {locs : List Loc} {Q : State → Prop} {D : va_G} {cs : Nat → ClassId} {A : Nat → Prop} {ad : Nat → Nat} {T : Nat} {B : Nat → va_E} {th pr fc : Int}
variable {a : Nat} {M : Nat → Nat → Int} {n : Int} {K : KS}
theorem l_Mo_note_2 (X : Cx p s m args c b_Mo_note RMo) (hr : meth.sig.returnType = none) (hlk : meth.locks = false) (hml : c.maxLocals = 4) (hT : 213 ≤ T) (ha : 41 ≤ a ∧ a < 50) (hW : WR M) (hK : moK cs ad th pr K M B) (hn : K.1 < 25) :
    ∀ (q k : Nat) (H : Heap) (locs : List Loc) (ls : Array Slot), Wd D cs A ad T s (mkR cs M B) H locs → k + q = K.1 → fndK K.2.1 (M a) K.1 0 = fndK K.2.1 (M a) q k → lv_has ls 4 [(0, .ref (ad (132))), (1, .ref (ad (138 + a))), (2, .int (iI (n))), (3, .int (iI (k)))] → W p l e { frames := 2, cells := 0, slots := 0, locals := 43 } s m args below meth c H locs 0 0 (MQ below (va_Qv (fun C' => ∃ M1 B1, C' = mkR cs M1 B1 ∧ moK cs ad th pr (noteK K (M a) n) M1 B1 ∧ WR M1 ∧ (∀ r, r < 16 ∨ 41 ≤ r → M1 r = M r) ∧ (∀ i, i ≠ 132 → i ≠ 135 → B1 i = B i)) (QW D cs ad T) A) args s 0 0 A) (F0 m 2 ls []) := by
  obtain ⟨hB, h5, hR⟩ := hK
  intro q
  induction q with
  | zero =>
    intro k H locs ls w h1 h2 hl
    have e9 : fndK K.2.1 (M a) K.1 0 = none := h2
    have e8 : k = K.1 := by omega
    subst e8
    refine lv_iload_n X.1 X.2.1 d_Mo_note_2 rfl (lv_at hl 3 rfl) ?_
    refine lv_aload_n X.1 X.2.1 d_Mo_note_3 rfl (lv_at hl 0 rfl) ?_
    refine m_get X hT w hB 5 (by decide) k_f_Mo_28 rfl d_Mo_note_4 ?_
    refine i_ge (a := ((K.1 : Nat) : Int)) (b := ((K.1 : Nat) : Int)) (tgt := 43) X (by omega) (by omega) d_Mo_note_7 (by decide) (fun h_7 => ?_) (fun h_7 => ?_)
    · refine lv_aload_n X.1 X.2.1 d_Mo_note_43 rfl (lv_at hl 0 rfl) ?_
      refine lv_dup X.1 X.2.1 d_Mo_note_44 rfl ?_
      refine m_get X hT w hB 5 (by decide) k_f_Mo_28 rfl d_Mo_note_45 ?_
      refine lv_dup_x1 X.1 X.2.1 d_Mo_note_48 rfl rfl ?_
      refine lv_iconst (v := iI (1)) X.1 X.2.1 d_Mo_note_49 (by decide) ?_
      refine i_add (a := ((K.1 : Nat) : Int)) (b := 1) X d_Mo_note_50 ?_
      refine m_pfc (z := ((K.1 : Nat) : Int) + 1) X hT w hB k_f_Mo_28 d_Mo_note_51 (fun H locs w => ?_)
      have hB := hB.set (th) (pr) (((K.1 : Nat) : Int) + 1)
      refine lv_istore_n (lv' := [(3, .int (iI (((K.1 : Nat) : Int)))), (0, .ref (ad (132))), (1, .ref (ad (138 + a))), (2, .int (iI (n)))]) X.1 X.2.1 d_Mo_note_54 rfl hl (by decide) rfl (fun ls hl => ?_)
      have h5 : mB ad B th pr (((K.1 : Nat) : Int) + 1) 135 = aI cs 25 K.2.2 := by show va_up B 132 _ 135 = _; rw [va_up_ne _ _ (show (135 : Nat) ≠ 132 by decide)]; exact h5
      have eN : noteK K (M a) n = (K.1 + 1, insN (M a) n K.1 K.2) := by unfold noteK; rw [e9]
      refine l_Mo_note_55 (M := M) (B := B) (a := a) (n := n) (th := th) (pr := pr) (fc := ((K.1 : Nat) : Int) + 1) (Z := insN (M a) n K.1 K.2) X hml hT ha (hW a (by omega)) (fun M1 B1 H locs ls w g1 g2 g3 g4 g5 g6 => ?_) K.1 K.2 M (mB ad B th pr (((K.1 : Nat) : Int) + 1)) _ _ _ hn w rfl hB h5 hR hW (fun _ _ => rfl) (fun i i1 _ => va_up_ne _ _ i1) (lv_sub hl [1, 2, 3, 0] rfl)
      refine w_vret X hr hlk w ⟨M1, B1, rfl, ⟨?_, ?_, ?_⟩, g4, g5, g6⟩ d_Mo_note_128
      · rw [eN]; exact g1
      · rw [eN]; exact g2
      · rw [eN]; exact g3
    · exact absurd h_7 (by omega)
  | succ q ih =>
    intro k H locs ls w h1 h2 hl
    have ek : M (16 + k) = K.2.1 k := hR k (by omega)
    have h2 : fndK K.2.1 (M a) K.1 0 = if samB (K.2.1 k) (M a) 50 then some k else fndK K.2.1 (M a) q (k + 1) := h2
    refine lv_iload_n X.1 X.2.1 d_Mo_note_2 rfl (lv_at hl 3 rfl) ?_
    refine lv_aload_n X.1 X.2.1 d_Mo_note_3 rfl (lv_at hl 0 rfl) ?_
    refine m_get X hT w hB 5 (by decide) k_f_Mo_28 rfl d_Mo_note_4 ?_
    refine i_ge (a := k) (b := ((K.1 : Nat) : Int)) (tgt := 43) X (by omega) (by omega) d_Mo_note_7 (by decide) (fun h_7 => ?_) (fun h_7 => ?_)
    · exact absurd h_7 (by omega)
    · refine lv_aload_n X.1 X.2.1 d_Mo_note_10 rfl (lv_at hl 0 rfl) ?_
      refine m_get X hT w hB 3 (by decide) k_f_Mo_21 rfl d_Mo_note_11 ?_
      refine lv_iload_n X.1 X.2.1 d_Mo_note_14 rfl (lv_at hl 3 rfl) ?_
      refine m_aal (i := 134) (n := 25) (pl := fun i => 138 + (16 + i)) (z := k) X w (by omega) (by rw [mkR_B (by decide)]; exact hB.2.2) (k) (by omega) (by omega) (by decide) d_Mo_note_15 ?_
      refine lv_aload_n X.1 X.2.1 d_Mo_note_16 rfl (lv_at hl 1 rfl) ?_
      refine w_cSi (n := 2) (As := [.ref (ad (138 + ((16 + k)))), .ref (ad (138 + a))]) (rest := []) X w hml hl.1 (c_Mo_same hT (M := M) (B := B) (a := 16 + k) (b := a) (by omega) (by omega) (hW _ (by omega)) (hW _ (by omega))) k_m_Mo_119 k_st_Mo_same k_i_Mo k_co_Mo_same (by decide +kernel) rfl ⟨Nat.le_of_ble_eq_true rfl, Nat.le_of_ble_eq_true rfl⟩ ⟨rfl, rfl⟩ ⟨Nat.zero_le _, Nat.zero_le _⟩ rfl (Nat.le_of_ble_eq_true rfl) d_Mo_note_17 (fun r' C' H locs hp w => ?_)
      obtain ⟨rfl, rfl⟩ := hp
      rw [ek, bI_i]
      refine z_ne (a := if samB (K.2.1 k) (M a) 50 then 1 else 0) (tgt := 26) X (by split <;> omega) d_Mo_note_20 (by decide) (fun h_20 => ?_) (fun h_20 => ?_)
      · refine lv_aload_n X.1 X.2.1 d_Mo_note_26 rfl (lv_at hl 0 rfl) ?_
        refine m_get X hT w hB 4 (by decide) k_f_Mo_24 rfl d_Mo_note_27 ?_
        refine lv_iload_n X.1 X.2.1 d_Mo_note_30 rfl (lv_at hl 3 rfl) ?_
        refine lv_dup2_11 X.1 X.2.1 d_Mo_note_31 rfl rfl ?_
        refine m_old (z := k) X hT w h5 (k) (by omega) (by omega) d_Mo_note_32 ?_
        refine lv_iload_n X.1 X.2.1 d_Mo_note_33 rfl (lv_at hl 2 rfl) ?_
        refine i_add (a := K.2.2 k) (b := n) X d_Mo_note_34 ?_
        refine m_ost (z := k) (v := (K.2.2 k) + n) X hT w h5 (k) (by omega) (by omega) d_Mo_note_35 (fun H locs w => ?_)
        obtain ⟨Bw1, eBw1⟩ : ∃ bb : Nat → va_E, bb = va_up B 135 (aI cs 25 (va_up K.2.2 k ((K.2.2 k) + n))) := ⟨_, rfl⟩
        rw [← eBw1] at w
        have hB := hB.oft (aI cs 25 (va_up K.2.2 k ((K.2.2 k) + n)))
        rw [← eBw1] at hB
        have h5 : Bw1 135 = aI cs 25 (va_up K.2.2 k ((K.2.2 k) + n)) := by rw [eBw1, va_up_self]
        have hb9 : samB (K.2.1 k) (M a) 50 = true := by
          cases e8 : samB (K.2.1 k) (M a) 50 with
          | true => rfl
          | false => rw [e8] at h_20; exact absurd rfl h_20
        rw [hb9, if_pos rfl] at h2
        have eN : noteK K (M a) n = (K.1, K.2.1, va_up K.2.2 k (K.2.2 k + n)) := by unfold noteK; rw [h2]
        refine w_vret X hr hlk w ⟨M, Bw1, rfl, ⟨?_, ?_, ?_⟩, hW, fun _ _ => rfl, fun i i1 i2 => by rw [eBw1, va_up_ne _ _ i2]⟩ d_Mo_note_36
        · rw [eN]; exact hB
        · rw [eN]; exact h5
        · rw [eN]; exact hR
      · refine lv_goto (tgt := 37) X.1 X.2.1 d_Mo_note_23 (by decide) ?_
        refine i_inc (k := 3) (x := k) (lv' := [(3, .int (iI (k + 1))), (0, .ref (ad (132))), (1, .ref (ad (138 + a))), (2, .int (iI (n)))]) X d_Mo_note_37 hl rfl (by decide) rfl (fun ls hl => ?_)
        refine lv_goto (tgt := 2) X.1 X.2.1 d_Mo_note_40 (by decide) ?_
        have hb9 : samB (K.2.1 k) (M a) 50 = false := by
          cases e8 : samB (K.2.1 k) (M a) 50 with
          | false => rfl
          | true => rw [e8] at h_20; exact absurd h_20 (by decide)
        rw [hb9, if_neg (by decide)] at h2
        exact ih (k + 1) H locs ls w (by omega) h2 (lv_sub hl [1, 2, 3, 0] rfl)
end MNP
theorem c_Mo_note {l : Launch} {D : va_G} {cs : Nat → ClassId} {A : Nat → Prop} {ad : Nat → Nat} {T : Nat} (hT : 213 ≤ T) {M : Nat → Nat → Int} {B : Nat → va_E} {th pr : Int} {K : KS} (hK : moK cs ad th pr K M B) {a : Nat} {n : Int} (ha : 41 ≤ a ∧ a < 50) (hn : K.1 < 25) (hW : WR M) : Cv l y_Mo_note ws_Mo_note { frames := 2, cells := 0, slots := 0, locals := 43 } D cs A ad T [.ref (ad (132)), .ref (ad (138 + a)), .int (iI (n))] (mkR cs M B) (fun C' => ∃ M1 B1, C' = mkR cs M1 B1 ∧ moK cs ad th pr (noteK K (M a) n) M1 B1 ∧ WR M1 ∧ (∀ r, r < 16 ∨ 41 ≤ r → M1 r = M r) ∧ (∀ i, i ≠ 132 → i ≠ 135 → B1 i = B i)) := by
  refine w_bodyV (by decide) (Nat.le_of_ble_eq_true rfl) ?_
  intro p e s m below meth c X hr hlk hml w ls hl
  have hl : lv_has ls 4 [(0, .ref (ad (132))), (1, .ref (ad (138 + a))), (2, .int (iI (n)))] := hl
  refine lv_iconst (v := iI (0)) X.1 X.2.1 d_Mo_note_0 (by decide) ?_
  refine lv_istore_n (lv' := [(3, .int (iI (0))), (0, .ref (ad (132))), (1, .ref (ad (138 + a))), (2, .int (iI (n)))]) X.1 X.2.1 d_Mo_note_1 rfl hl (by decide) rfl (fun ls hl => ?_)
  exact l_Mo_note_2 X hr hlk hml hT ha hW hK hn K.1 0 _ _ ls w (by omega) rfl (lv_sub hl [1, 2, 3, 0] rfl)
