def arQ (cs : Nat → ClassId) (ad' : Nat → Nat) (C' : Nat → va_E) : Prop := C' 1 = .inr (1, [.int (iI 2), .ref (ad' 3), .ref (ad' 2), .ref (ad' 5), .ref (ad' 7), .ref (ad' 9), .ref (ad' 11), .ref (ad' 13), .ref (ad' 15)]) ∧ (∃ inv, invP 2 inv ∧ C' 2 = aI cs 13 inv) ∧ (C' 3 = poE (ad' 4) ∧ C' 4 = aI cs 300 (fun _ => 0)) ∧ (C' 5 = poE (ad' 6) ∧ C' 6 = aI cs 300 (fun _ => 0)) ∧ (C' 7 = poE (ad' 8) ∧ C' 8 = aI cs 25 (fun _ => 0)) ∧ (C' 9 = poE (ad' 10) ∧ C' 10 = aI cs 25 (fun _ => 0)) ∧ (C' 11 = poE (ad' 12) ∧ C' 12 = aI cs 25 (fun _ => 0)) ∧ (C' 13 = poE (ad' 14) ∧ C' 14 = aI cs 25 (fun _ => 0)) ∧ (C' 15 = poE (ad' 16) ∧ C' 16 = aI cs 25 (fun _ => 0))
def osQ (cs : Nat → ClassId) (ad' : Nat → Nat) (C' : Nat → va_E) (r : Nat) : Prop := C' 86 = .inr (3, [.ref r, .ref (ad' 87), .ref (ad' 88), .ref (ad' 89), .ref (ad' 91), .ref (ad' 93)]) ∧ C' 87 = aL cs 500 (fun _ => 0) ∧ C' 88 = aL cs 500 (fun _ => 0) ∧ (C' 89 = poE (ad' 90) ∧ C' 90 = aI cs 25 (fun _ => 0)) ∧ (C' 91 = poE (ad' 92) ∧ C' 92 = aI cs 25 (fun _ => 0)) ∧ C' 93 = .inr (0, [.ref (ad' 94), .int (iI 1)]) ∧ C' 94 = aI cs 25 (va_up (fun _ => 0) 1 1)
def cuQ (cs : Nat → ClassId) (ad' : Nat → Nat) (C' : Nat → va_E) (r : Nat) : Prop := C' 17 = .inr (2, [.ref (ad' 18), .ref (ad' 19), .int (iI 0), .ref r, .ref (ad' 68), .ref (ad' 70), .ref (ad' 72), .ref (ad' 74), .ref (ad' 76), .ref (ad' 78), .ref (ad' 80), .ref (ad' 82), .ref (ad' 84)]) ∧ C' 19 = aI cs 24 (fun _ => 0) ∧ plV cs ad' C' 18 20 24 24 ∧ (C' 68 = poE (ad' 69) ∧ C' 69 = aI cs 25 (fun _ => 0)) ∧ (C' 70 = poE (ad' 71) ∧ C' 71 = aI cs 25 (fun _ => 0)) ∧ (C' 72 = poE (ad' 73) ∧ C' 73 = aI cs 25 (fun _ => 0)) ∧ (C' 74 = poE (ad' 75) ∧ C' 75 = aI cs 25 (fun _ => 0)) ∧ (C' 76 = poE (ad' 77) ∧ C' 77 = aI cs 25 (fun _ => 0)) ∧ (C' 78 = poE (ad' 79) ∧ C' 79 = aI cs 25 (fun _ => 0)) ∧ (C' 80 = poE (ad' 81) ∧ C' 81 = aI cs 25 (fun _ => 0)) ∧ C' 82 = .inr (0, [.ref (ad' 83), .int (iI 0)]) ∧ C' 83 = aI cs 25 (va_up (fun _ => 0) 0 1) ∧ C' 84 = .inr (0, [.ref (ad' 85), .int (iI 1)]) ∧ C' 85 = aI cs 25 (va_up (fun _ => 0) 1 1)
theorem arQ_c {cs : Nat → ClassId} {ad1 ad2 : Nat → Nat} {C1 C2 : Nat → va_E} (h : arQ cs ad1 C1) (h1 : ∀ j, j < 17 → ad2 j = ad1 j) (h2 : ∀ j, 1 ≤ j → j < 17 → C2 j = C1 j) : arQ cs ad2 C2 := by
  unfold arQ at *
  simp only [h1 1 (by decide), h1 2 (by decide), h1 3 (by decide), h1 4 (by decide), h1 5 (by decide), h1 6 (by decide), h1 7 (by decide), h1 8 (by decide), h1 9 (by decide), h1 10 (by decide), h1 11 (by decide), h1 12 (by decide), h1 13 (by decide), h1 14 (by decide), h1 15 (by decide), h1 16 (by decide), h2 1 (by decide) (by decide), h2 2 (by decide) (by decide), h2 3 (by decide) (by decide), h2 4 (by decide) (by decide), h2 5 (by decide) (by decide), h2 6 (by decide) (by decide), h2 7 (by decide) (by decide), h2 8 (by decide) (by decide), h2 9 (by decide) (by decide), h2 10 (by decide) (by decide), h2 11 (by decide) (by decide), h2 12 (by decide) (by decide), h2 13 (by decide) (by decide), h2 14 (by decide) (by decide), h2 15 (by decide) (by decide), h2 16 (by decide) (by decide)]
  exact h
theorem osQ_c {cs : Nat → ClassId} {ad1 ad2 : Nat → Nat} {C1 C2 : Nat → va_E} {r : Nat} (h : osQ cs ad1 C1 r) (h1 : ∀ j, j < 95 → ad2 j = ad1 j) (h2 : ∀ j, 86 ≤ j → j < 95 → C2 j = C1 j) : osQ cs ad2 C2 r := by
  unfold osQ at *
  simp only [h1 86 (by decide), h1 87 (by decide), h1 88 (by decide), h1 89 (by decide), h1 90 (by decide), h1 91 (by decide), h1 92 (by decide), h1 93 (by decide), h1 94 (by decide), h2 86 (by decide) (by decide), h2 87 (by decide) (by decide), h2 88 (by decide) (by decide), h2 89 (by decide) (by decide), h2 90 (by decide) (by decide), h2 91 (by decide) (by decide), h2 92 (by decide) (by decide), h2 93 (by decide) (by decide), h2 94 (by decide) (by decide)]
  exact h
theorem cuQ_c {cs : Nat → ClassId} {ad1 ad2 : Nat → Nat} {C1 C2 : Nat → va_E} {r : Nat} (h : cuQ cs ad1 C1 r) (h1 : ∀ j, j < 86 → ad2 j = ad1 j) (h2 : ∀ j, 17 ≤ j → j < 86 → C2 j = C1 j) : cuQ cs ad2 C2 r := by
  have hp := plV_c h.2.2.1 (fun j hj => h1 j (by omega)) (h2 18 (by decide) (by decide)) (fun j j1 j2 => h2 j (by omega) (by omega))
  obtain ⟨a1, a2, a3, a4⟩ := h
  refine ⟨?_, ?_, hp, ?_⟩
  · simp only [h1 17 (by decide), h1 18 (by decide), h1 19 (by decide), h1 68 (by decide), h1 69 (by decide), h1 70 (by decide), h1 71 (by decide), h1 72 (by decide), h1 73 (by decide), h1 74 (by decide), h1 75 (by decide), h1 76 (by decide), h1 77 (by decide), h1 78 (by decide), h1 79 (by decide), h1 80 (by decide), h1 81 (by decide), h1 82 (by decide), h1 83 (by decide), h1 84 (by decide), h1 85 (by decide), h2 17 (by decide) (by decide), h2 18 (by decide) (by decide), h2 19 (by decide) (by decide), h2 68 (by decide) (by decide), h2 69 (by decide) (by decide), h2 70 (by decide) (by decide), h2 71 (by decide) (by decide), h2 72 (by decide) (by decide), h2 73 (by decide) (by decide), h2 74 (by decide) (by decide), h2 75 (by decide) (by decide), h2 76 (by decide) (by decide), h2 77 (by decide) (by decide), h2 78 (by decide) (by decide), h2 79 (by decide) (by decide), h2 80 (by decide) (by decide), h2 81 (by decide) (by decide), h2 82 (by decide) (by decide), h2 83 (by decide) (by decide), h2 84 (by decide) (by decide), h2 85 (by decide) (by decide)]; exact a1
  · simp only [h2 17 (by decide) (by decide), h2 18 (by decide) (by decide), h2 19 (by decide) (by decide), h2 68 (by decide) (by decide), h2 69 (by decide) (by decide), h2 70 (by decide) (by decide), h2 71 (by decide) (by decide), h2 72 (by decide) (by decide), h2 73 (by decide) (by decide), h2 74 (by decide) (by decide), h2 75 (by decide) (by decide), h2 76 (by decide) (by decide), h2 77 (by decide) (by decide), h2 78 (by decide) (by decide), h2 79 (by decide) (by decide), h2 80 (by decide) (by decide), h2 81 (by decide) (by decide), h2 82 (by decide) (by decide), h2 83 (by decide) (by decide), h2 84 (by decide) (by decide), h2 85 (by decide) (by decide)]; exact a2
  · simp only [h1 17 (by decide), h1 18 (by decide), h1 19 (by decide), h1 68 (by decide), h1 69 (by decide), h1 70 (by decide), h1 71 (by decide), h1 72 (by decide), h1 73 (by decide), h1 74 (by decide), h1 75 (by decide), h1 76 (by decide), h1 77 (by decide), h1 78 (by decide), h1 79 (by decide), h1 80 (by decide), h1 81 (by decide), h1 82 (by decide), h1 83 (by decide), h1 84 (by decide), h1 85 (by decide), h2 17 (by decide) (by decide), h2 18 (by decide) (by decide), h2 19 (by decide) (by decide), h2 68 (by decide) (by decide), h2 69 (by decide) (by decide), h2 70 (by decide) (by decide), h2 71 (by decide) (by decide), h2 72 (by decide) (by decide), h2 73 (by decide) (by decide), h2 74 (by decide) (by decide), h2 75 (by decide) (by decide), h2 76 (by decide) (by decide), h2 77 (by decide) (by decide), h2 78 (by decide) (by decide), h2 79 (by decide) (by decide), h2 80 (by decide) (by decide), h2 81 (by decide) (by decide), h2 82 (by decide) (by decide), h2 83 (by decide) (by decide), h2 84 (by decide) (by decide), h2 85 (by decide) (by decide)]; exact a4
section FFI
variable {p : Program} {l : Launch} {e : Env} {s : State} {m : MethodId} {args : Array Value} {below : List Frame} {meth : Method} {c : Code} {Q : State → Prop} {D : va_G} {cs : Nat → ClassId} {A : Nat → Prop} {adL : Nat → Nat} {CL : Nat → va_E} {a g1 g2 g3 g4 : Nat}
def ffV (cs : Nat → ClassId) (adL : Nat → Nat) (CL : Nat → va_E) (i : Nat) (ad : Nat → Nat) (C : Nat → va_E) : Prop := (∀ j, j < 96 → ad j = adL j) ∧ (∀ j, j < 95 → C j = CL j) ∧ plV cs ad C 95 96 i 16
theorem l_Ff_init_56 (X : Cx p s m args c b_Ff_init RFf) (ev : EV A s) (hml : c.maxLocals = 2) (hA : adL 0 = a) (h18 : adL 95 = g4) (hO : CL 0 = .inr (4, [.ref g1, .ref g2, .ref g3, .ref g4, .null, .null]))
    (K : ∀ (ad : Nat → Nat) (C : Nat → va_E) (H : Heap) (locs : List Loc) (ls : Array Slot), Wd D cs A ad 128 s C H locs → ffV cs adL CL 16 ad C → lv_has ls 2 [(0, .ref a)] → W p l e { frames := 3, cells := 131, slots := 3302, locals := 64 } s m args below meth c H locs 127 3248 Q (F0 m 83 ls [])) :
    ∀ (n i : Nat) (ad : Nat → Nat) (C : Nat → va_E) (H : Heap) (locs : List Loc) (ls : Array Slot), i + n = 16 → Wd D cs A ad (96 + 2 * i) s C H locs → ffV cs adL CL i ad C → lv_has ls 2 [(1, .int (iI (i : Int))), (0, .ref a)] → W p l e { frames := 3, cells := 131, slots := 3302, locals := 64 } s m args below meth c H locs (95 + 2 * i) (2816 + 27 * i) Q (F0 m 56 ls []) := by
  intro n
  induction n with
  | zero =>
    intro i ad C H locs ls hi w hv hl
    have hi : i = 16 := by omega
    subst hi
    refine lv_iload_n X.1 X.2.1 d_Ff_init_56 rfl (lv_at hl 0 rfl) ?_
    refine lv_bipush (v := iI (16)) X.1 X.2.1 d_Ff_init_57 (by decide) ?_
    refine i_ge (a := ((16 : Nat) : Int)) (b := 16) (tgt := 83) X (by decide) (by decide) d_Ff_init_59 (by decide) (fun h_31 => ?_) (fun h_31 => ?_)
    · exact K ad C H locs ls w hv (lv_sub hl [1] rfl)
    · exact absurd h_31 (by omega)
  | succ n ih =>
    intro i ad C H locs ls hi w hv hl
    have hC17 : C 0 = .inr (4, [.ref g1, .ref g2, .ref g3, .ref g4, .null, .null]) := (hv.2.1 0 (by omega)).trans hO
    refine lv_iload_n X.1 X.2.1 d_Ff_init_56 rfl (lv_at hl 0 rfl) ?_
    refine lv_bipush (v := iI (16)) X.1 X.2.1 d_Ff_init_57 (by decide) ?_
    refine i_ge (a := (i : Int)) (b := 16) (tgt := 83) X (by omega) (by decide) d_Ff_init_59 (by decide) (fun h_31 => ?_) (fun h_31 => ?_)
    · exact absurd h_31 (by omega)
    · refine lv_aload_n X.1 X.2.1 d_Ff_init_62 rfl (lv_at hl 1 rfl) ?_
      refine g_getv (i := 0) (ci := 4) (fs := [.ref g1, .ref g2, .ref g3, .ref g4, .null, .null]) (.ref g4) X w ((hv.1 0 (by omega)).trans hA) (by omega) hC17 rfl k_l_Ff 3 (by decide) k_f_Ff_34 rfl d_Ff_init_63 ?_
      refine lv_iload_n X.1 X.2.1 d_Ff_init_66 rfl (lv_at hl 0 rfl) ?_
      refine m_poly25 X ev w hml hl.1 k_c_Ff_32 k_m_Ff_38 ⟨Nat.le_of_ble_eq_true rfl, Nat.le_of_ble_eq_true rfl⟩ ⟨by show 95 + 2 * i + 2 ≤ 131; omega, by show 2816 + 27 * i + 27 ≤ 3302; omega⟩ (Nat.le_of_ble_eq_true rfl) d_Ff_init_67 d_Ff_init_70 d_Ff_init_71 d_Ff_init_73 (fun q q2 ad1 C1 H locs ea eC w => ?_)
      have hn18 : C1 95 = aQn cs 16 (fun k => if k < i then some (ad (96 + 2 * k)) else none) := by rw [eC, va_up_ne _ _ (by omega), va_up_ne _ _ (by omega)]; exact hv.2.2.1
      have ha18 : ad1 95 = g4 := by rw [ea, va_up_ne _ _ (by omega), va_up_ne _ _ (by omega)]; exact (hv.1 95 (by omega)).trans h18
      refine n_aas (i := 95) (v := 96 + 2 * i) (n := 16) (a := g4) (b := q) (vs := [.ref q2, .int (iI (-1))]) X w ha18 (by omega) hn18 (by rw [ea, va_up_ne _ _ (by omega), va_up_self]) (by omega) (by rw [eC, va_up_ne _ _ (by omega), va_up_self]; rfl) i rfl (by omega) (by decide) d_Ff_init_76 (fun H locs w => ?_)
      refine i_inc (k := 0) (x := (i : Int)) (lv' := [(1, .int (iI ((i : Int) + 1))), (0, .ref a)]) X d_Ff_init_77 hl rfl (by decide) rfl (fun ls hl => ?_)
      refine lv_goto (tgt := 56) X.1 X.2.1 d_Ff_init_80 (by decide) ?_
      rw [show 96 + 2 * i + 2 = 96 + 2 * (i + 1) by omega] at w
      rw [show 95 + 2 * i + 2 = 95 + 2 * (i + 1) by omega, show 2816 + 27 * i + 27 = 2816 + 27 * (i + 1) by omega]
      refine ih (i + 1) ad1 _ H locs ls (by omega) w ⟨fun j hj => ?_, fun j hj => ?_, ?_⟩ hl
      · rw [ea, va_up_ne _ _ (by omega), va_up_ne _ _ (by omega)]; exact hv.1 j hj
      · rw [va_up_ne _ _ (by omega), eC, va_up_ne _ _ (by omega), va_up_ne _ _ (by omega)]; exact hv.2.1 j hj
      · exact plV_s hv.2.2 rfl (by decide) ea (by rw [eC])
end FFI
/-- the object as new: itself at 0 -/
def ffP (cs : Nat → ClassId) (ad : Nat → Nat) (ad' : Nat → Nat) (T' : Nat) (C' : Nat → va_E) : Prop := T' = 132 ∧ ad' 0 = ad 0 ∧ C' 0 = .inr (4, [.ref (ad' 1), .ref (ad' 17), .ref (ad' 86), .ref (ad' 95), .ref (ad' 128), .ref (ad' 130)]) ∧ arQ cs ad' C' ∧ cuQ cs ad' C' (ad' 1) ∧ osQ cs ad' C' (ad' 1) ∧ plV cs ad' C' 95 96 16 16 ∧ (C' 128 = poE (ad' 129) ∧ C' 129 = aI cs 25 (fun _ => 0)) ∧ (C' 130 = poE (ad' 131) ∧ C' 131 = aI cs 25 (fun _ => 0))
theorem c_Ff_init {l : Launch} {D : va_G} {cs : Nat → ClassId} {A : Nat → Prop} {ad : Nat → Nat} {C : Nat → va_E} {a : Nat} (ha : ad 0 = a) (hC : C 0 = .inr (4, [.null, .null, .null, .null, .null, .null])) : Cn l y_Ff_init ws_Ff_init { frames := 3, cells := 131, slots := 3302, locals := 64 } D cs A ad 1 [.ref a] C (ffP cs ad) 131 3302 := by
  refine n_body (by decide) (Nat.le_of_ble_eq_true rfl) rfl ?_
  intro p e s m below meth c X hr hlk hml hnm ev w ls hl
  have hl : lv_has ls 2 [(0, .ref a)] := hl
  have hA : ad 0 = a := ha
  have hO : C 0 = .inr (4, [.null, .null, .null, .null, .null, .null]) := hC
  have hF : ∀ i, i < 0 → C i = C i := fun _ _ => rfl
  have hG : ∀ i, i < 1 → ad i = ad i := fun _ _ => rfl
  refine lv_aload_n X.1 X.2.1 d_Ff_init_0 rfl (lv_at hl 0 rfl) ?_
  refine n_obj (k := 2) X hml hl.1 k_m_Ff_3 d_Ff_init_1 (Nat.le_of_ble_eq_true rfl) (Nat.le_of_ble_eq_true rfl) ?_
  refine lv_aload_n X.1 X.2.1 d_Ff_init_4 rfl (lv_at hl 0 rfl) ?_
  refine m_new (Cn := RAr) (Tn := FAr) (N := 9) (ci := 1) (fs := [.int 0, .null, .null, .null, .null, .null, .null, .null, .null]) X w k_l_Ar tAr tyAr k_c_Ff_9 k_n_Ar k_i_Ar rfl (by decide) (Nat.le_of_ble_eq_true rfl) (Nat.le_of_ble_eq_true rfl) d_Ff_init_5 (fun q1 ad1 C1 H ead1 eC1 w => ?_)
  have hA : ad1 0 = a := by rw [ead1]; rw [va_up_ne _ _ (by omega)]; exact hA
  have hO : C1 0 = .inr (4, [.null, .null, .null, .null, .null, .null]) := by rw [eC1, va_up_ne _ _ (by omega)]; exact hO
  have hF : ∀ i, i < 0 → C1 i = C i := fun i hi => (congrFun eC1 i).trans ((va_up_ne _ _ (by omega)).trans (hF i hi))
  have hG : ∀ i, i < 1 → ad1 i = ad i := fun i hi => (congrFun ead1 i).trans ((va_up_ne _ _ (by omega)).trans (hG i hi))
  have w : Wd D cs A ad1 2 s C1 H _ := w
  refine lv_dup X.1 X.2.1 d_Ff_init_8 rfl ?_
  refine n_cI (n := 0) (b := q1) (As := []) (rest := [.ref q1, .ref a]) X ev w hml hl.1 (c_Ar_init (by rw [ead1, va_up_self]) (by rw [eC1, va_up_self])) k_m_Ff_11 k_im_Ar_init k_i_Ar k_co_Ar_init rfl (by decide +kernel) rfl ⟨(Nat.le_of_ble_eq_true rfl), (Nat.le_of_ble_eq_true rfl)⟩ ⟨rfl, rfl⟩ ⟨(Nat.le_of_ble_eq_true rfl), (Nat.le_of_ble_eq_true rfl)⟩ rfl (Nat.le_of_ble_eq_true rfl) d_Ff_init_9 (fun adM TM CM H locs hp w => ?_)
  obtain ⟨rfl, hg1, hf1, hq1⟩ := hp
  have hA : adM 0 = a := (hg1 0 (by omega)).trans hA
  have hO : CM 0 = .inr (4, [.null, .null, .null, .null, .null, .null]) := (hf1 0 (by omega)).trans hO
  have hG : ∀ i, i < 1 → adM i = ad i := fun i hi => (hg1 i (by omega)).trans (hG i hi)
  have hF : ∀ i, i < 0 → CM i = C i := fun i hi => absurd hi (Nat.not_lt_zero i)
  have hq_1 : adM 1 = q1 := (hg1 1 (by omega)).trans (by rw [ead1, va_up_self])
  have hAr : arQ cs adM CM := hq1
  have hM : ∀ j, j < 17 → j ≠ 0 → CM j = CM j := fun _ _ _ => rfl
  have hN : ∀ j, j < 17 → adM j = adM j := fun _ _ => rfl
  refine m_putF (i := 0) (ci := 4) (fs := [.null, .null, .null, .null, .null, .null]) X hnm w hA (by decide) hO rfl k_l_Ff tFf tyFf nFf 0 (by decide) k_f_Ff_12 rfl rfl rfl rfl (Nat.le_of_ble_eq_true rfl) d_Ff_init_12 (fun C2 H locs eC2 w => ?_)
  have hO : C2 0 = .inr (4, [.ref q1, .null, .null, .null, .null, .null]) := by rw [eC2]; exact va_up_self _ _ _
  have hF : ∀ i, i < 0 → C2 i = C i := fun i hi => (congrFun eC2 i).trans ((va_up_ne _ _ (by omega)).trans (hF i hi))
  have hM : ∀ j, j < 17 → j ≠ 0 → C2 j = CM j := fun j hj hn => (congrFun eC2 j).trans ((va_up_ne _ _ (by omega)).trans (hM j hj hn))
  refine lv_aload_n X.1 X.2.1 d_Ff_init_15 rfl (lv_at hl 0 rfl) ?_
  refine m_new (Cn := RCu) (Tn := FCu) (N := 13) (ci := 2) (fs := [.null, .null, .int 0, .null, .null, .null, .null, .null, .null, .null, .null, .null, .null]) X w k_l_Cu tCu tyCu k_c_Ff_16 k_n_Cu k_i_Cu rfl (by decide) (Nat.le_of_ble_eq_true rfl) (Nat.le_of_ble_eq_true rfl) d_Ff_init_16 (fun q2 ad3 C3 H ead3 eC3 w => ?_)
  have hA : ad3 0 = a := by rw [ead3]; rw [va_up_ne _ _ (by omega)]; exact hA
  have hO : C3 0 = .inr (4, [.ref q1, .null, .null, .null, .null, .null]) := by rw [eC3, va_up_ne _ _ (by omega)]; exact hO
  have hF : ∀ i, i < 0 → C3 i = C i := fun i hi => (congrFun eC3 i).trans ((va_up_ne _ _ (by omega)).trans (hF i hi))
  have hG : ∀ i, i < 1 → ad3 i = ad i := fun i hi => (congrFun ead3 i).trans ((va_up_ne _ _ (by omega)).trans (hG i hi))
  have hM : ∀ j, j < 17 → j ≠ 0 → C3 j = CM j := fun j hj hn => (congrFun eC3 j).trans ((va_up_ne _ _ (by omega)).trans (hM j hj hn))
  have hN : ∀ j, j < 17 → ad3 j = adM j := fun j hj => (congrFun ead3 j).trans ((va_up_ne _ _ (by omega)).trans (hN j hj))
  have w : Wd D cs A ad3 18 s C3 H _ := w
  refine lv_dup X.1 X.2.1 d_Ff_init_19 rfl ?_
  refine lv_aload_n X.1 X.2.1 d_Ff_init_20 rfl (lv_at hl 0 rfl) ?_
  refine g_getv (i := 0) (ci := 4) (fs := [.ref q1, .null, .null, .null, .null, .null]) (.ref q1) X w hA (by decide) hO rfl k_l_Ff 0 (by decide) k_f_Ff_12 rfl d_Ff_init_21 ?_
  refine n_cI (n := 1) (b := q2) (As := [.ref q1]) (rest := [.ref q2, .ref a]) X ev w hml hl.1 (c_Cu_init (by rw [ead3, va_up_self]) (by rw [eC3, va_up_self])) k_m_Ff_18 k_im_Cu_init k_i_Cu k_co_Cu_init rfl (by decide +kernel) rfl ⟨(Nat.le_of_ble_eq_true rfl), (Nat.le_of_ble_eq_true rfl)⟩ ⟨rfl, rfl⟩ ⟨(Nat.le_of_ble_eq_true rfl), (Nat.le_of_ble_eq_true rfl)⟩ rfl (Nat.le_of_ble_eq_true rfl) d_Ff_init_24 (fun adM TM CM H locs hp w => ?_)
  obtain ⟨rfl, hg1, hf1, hq1⟩ := hp
  have hA : adM 0 = a := (hg1 0 (by omega)).trans hA
  have hO : CM 0 = .inr (4, [.ref q1, .null, .null, .null, .null, .null]) := (hf1 0 (by omega)).trans hO
  have hG : ∀ i, i < 1 → adM i = ad i := fun i hi => (hg1 i (by omega)).trans (hG i hi)
  have hF : ∀ i, i < 0 → CM i = C i := fun i hi => absurd hi (Nat.not_lt_zero i)
  have hq_1 : adM 1 = q1 := (hg1 1 (by omega)).trans ((hN 1 (by omega)).trans hq_1)
  have hAr : arQ cs adM CM := arQ_c (hAr) (fun j hj => (hg1 j (by omega)).trans (hN j (by omega))) (fun j j1 j2 => (hf1 j (by omega)).trans (hM j (by omega) (by omega)))
  have hq_17 : adM 17 = q2 := (hg1 17 (by omega)).trans (by rw [ead3, va_up_self])
  have hCu : cuQ cs adM CM q1 := hq1
  have hM : ∀ j, j < 86 → j ≠ 0 → CM j = CM j := fun _ _ _ => rfl
  have hN : ∀ j, j < 86 → adM j = adM j := fun _ _ => rfl
  refine m_putF (i := 0) (ci := 4) (fs := [.ref q1, .null, .null, .null, .null, .null]) X hnm w hA (by decide) hO rfl k_l_Ff tFf tyFf nFf 1 (by decide) k_f_Ff_21 rfl rfl rfl rfl (Nat.le_of_ble_eq_true rfl) d_Ff_init_27 (fun C4 H locs eC4 w => ?_)
  have hO : C4 0 = .inr (4, [.ref q1, .ref q2, .null, .null, .null, .null]) := by rw [eC4]; exact va_up_self _ _ _
  have hF : ∀ i, i < 0 → C4 i = C i := fun i hi => (congrFun eC4 i).trans ((va_up_ne _ _ (by omega)).trans (hF i hi))
  have hM : ∀ j, j < 86 → j ≠ 0 → C4 j = CM j := fun j hj hn => (congrFun eC4 j).trans ((va_up_ne _ _ (by omega)).trans (hM j hj hn))
  refine lv_aload_n X.1 X.2.1 d_Ff_init_30 rfl (lv_at hl 0 rfl) ?_
  refine m_new (Cn := ROs) (Tn := FOs) (N := 6) (ci := 3) (fs := [.null, .null, .null, .null, .null, .null]) X w k_l_Os tOs tyOs k_c_Ff_25 k_n_Os k_i_Os rfl (by decide) (Nat.le_of_ble_eq_true rfl) (Nat.le_of_ble_eq_true rfl) d_Ff_init_31 (fun q3 ad5 C5 H ead5 eC5 w => ?_)
  have hA : ad5 0 = a := by rw [ead5]; rw [va_up_ne _ _ (by omega)]; exact hA
  have hO : C5 0 = .inr (4, [.ref q1, .ref q2, .null, .null, .null, .null]) := by rw [eC5, va_up_ne _ _ (by omega)]; exact hO
  have hF : ∀ i, i < 0 → C5 i = C i := fun i hi => (congrFun eC5 i).trans ((va_up_ne _ _ (by omega)).trans (hF i hi))
  have hG : ∀ i, i < 1 → ad5 i = ad i := fun i hi => (congrFun ead5 i).trans ((va_up_ne _ _ (by omega)).trans (hG i hi))
  have hM : ∀ j, j < 86 → j ≠ 0 → C5 j = CM j := fun j hj hn => (congrFun eC5 j).trans ((va_up_ne _ _ (by omega)).trans (hM j hj hn))
  have hN : ∀ j, j < 86 → ad5 j = adM j := fun j hj => (congrFun ead5 j).trans ((va_up_ne _ _ (by omega)).trans (hN j hj))
  have w : Wd D cs A ad5 87 s C5 H _ := w
  refine lv_dup X.1 X.2.1 d_Ff_init_34 rfl ?_
  refine lv_aload_n X.1 X.2.1 d_Ff_init_35 rfl (lv_at hl 0 rfl) ?_
  refine g_getv (i := 0) (ci := 4) (fs := [.ref q1, .ref q2, .null, .null, .null, .null]) (.ref q1) X w hA (by decide) hO rfl k_l_Ff 0 (by decide) k_f_Ff_12 rfl d_Ff_init_36 ?_
  refine n_cI (n := 1) (b := q3) (As := [.ref q1]) (rest := [.ref q3, .ref a]) X ev w hml hl.1 (c_Os_init (by rw [ead5, va_up_self]) (by rw [eC5, va_up_self])) k_m_Ff_27 k_im_Os_init k_i_Os k_co_Os_init rfl (by decide +kernel) rfl ⟨(Nat.le_of_ble_eq_true rfl), (Nat.le_of_ble_eq_true rfl)⟩ ⟨rfl, rfl⟩ ⟨(Nat.le_of_ble_eq_true rfl), (Nat.le_of_ble_eq_true rfl)⟩ rfl (Nat.le_of_ble_eq_true rfl) d_Ff_init_39 (fun adM TM CM H locs hp w => ?_)
  obtain ⟨rfl, hg1, hf1, hq1⟩ := hp
  have hA : adM 0 = a := (hg1 0 (by omega)).trans hA
  have hO : CM 0 = .inr (4, [.ref q1, .ref q2, .null, .null, .null, .null]) := (hf1 0 (by omega)).trans hO
  have hG : ∀ i, i < 1 → adM i = ad i := fun i hi => (hg1 i (by omega)).trans (hG i hi)
  have hF : ∀ i, i < 0 → CM i = C i := fun i hi => absurd hi (Nat.not_lt_zero i)
  have hq_1 : adM 1 = q1 := (hg1 1 (by omega)).trans ((hN 1 (by omega)).trans hq_1)
  have hAr : arQ cs adM CM := arQ_c (hAr) (fun j hj => (hg1 j (by omega)).trans (hN j (by omega))) (fun j j1 j2 => (hf1 j (by omega)).trans (hM j (by omega) (by omega)))
  have hq_17 : adM 17 = q2 := (hg1 17 (by omega)).trans ((hN 17 (by omega)).trans hq_17)
  have hCu : cuQ cs adM CM q1 := cuQ_c (hCu) (fun j hj => (hg1 j (by omega)).trans (hN j (by omega))) (fun j j1 j2 => (hf1 j (by omega)).trans (hM j (by omega) (by omega)))
  have hq_86 : adM 86 = q3 := (hg1 86 (by omega)).trans (by rw [ead5, va_up_self])
  have hOs : osQ cs adM CM q1 := hq1
  have hM : ∀ j, j < 95 → j ≠ 0 → CM j = CM j := fun _ _ _ => rfl
  have hN : ∀ j, j < 95 → adM j = adM j := fun _ _ => rfl
  refine m_putF (i := 0) (ci := 4) (fs := [.ref q1, .ref q2, .null, .null, .null, .null]) X hnm w hA (by decide) hO rfl k_l_Ff tFf tyFf nFf 2 (by decide) k_f_Ff_28 rfl rfl rfl rfl (Nat.le_of_ble_eq_true rfl) d_Ff_init_42 (fun C6 H locs eC6 w => ?_)
  have hO : C6 0 = .inr (4, [.ref q1, .ref q2, .ref q3, .null, .null, .null]) := by rw [eC6]; exact va_up_self _ _ _
  have hF : ∀ i, i < 0 → C6 i = C i := fun i hi => (congrFun eC6 i).trans ((va_up_ne _ _ (by omega)).trans (hF i hi))
  have hM : ∀ j, j < 95 → j ≠ 0 → C6 j = CM j := fun j hj hn => (congrFun eC6 j).trans ((va_up_ne _ _ (by omega)).trans (hM j hj hn))
  refine lv_aload_n X.1 X.2.1 d_Ff_init_45 rfl (lv_at hl 0 rfl) ?_
  refine lv_bipush (v := iI (16)) X.1 X.2.1 d_Ff_init_46 (by decide) ?_
  refine m_anew 16 rfl (by decide) X ev k_c_Ff_32 w (Nat.le_of_ble_eq_true rfl) (Nat.le_of_ble_eq_true rfl) d_Ff_init_48 (fun q4 ad7 C7 H ead7 eC7 w => ?_)
  have hA : ad7 0 = a := by rw [ead7]; rw [va_up_ne _ _ (by omega)]; exact hA
  have hO : C7 0 = .inr (4, [.ref q1, .ref q2, .ref q3, .null, .null, .null]) := by rw [eC7, va_up_ne _ _ (by omega)]; exact hO
  have hF : ∀ i, i < 0 → C7 i = C i := fun i hi => (congrFun eC7 i).trans ((va_up_ne _ _ (by omega)).trans (hF i hi))
  have hG : ∀ i, i < 1 → ad7 i = ad i := fun i hi => (congrFun ead7 i).trans ((va_up_ne _ _ (by omega)).trans (hG i hi))
  have hM : ∀ j, j < 95 → j ≠ 0 → C7 j = CM j := fun j hj hn => (congrFun eC7 j).trans ((va_up_ne _ _ (by omega)).trans (hM j hj hn))
  have hN : ∀ j, j < 95 → ad7 j = adM j := fun j hj => (congrFun ead7 j).trans ((va_up_ne _ _ (by omega)).trans (hN j hj))
  have w : Wd D cs A ad7 96 s C7 H _ := w
  refine m_putF (i := 0) (ci := 4) (fs := [.ref q1, .ref q2, .ref q3, .null, .null, .null]) X hnm w hA (by decide) hO rfl k_l_Ff tFf tyFf nFf 3 (by decide) k_f_Ff_34 rfl rfl rfl rfl (Nat.le_of_ble_eq_true rfl) d_Ff_init_51 (fun C8 H locs eC8 w => ?_)
  have hO : C8 0 = .inr (4, [.ref q1, .ref q2, .ref q3, .ref q4, .null, .null]) := by rw [eC8]; exact va_up_self _ _ _
  have hF : ∀ i, i < 0 → C8 i = C i := fun i hi => (congrFun eC8 i).trans ((va_up_ne _ _ (by omega)).trans (hF i hi))
  have hM : ∀ j, j < 95 → j ≠ 0 → C8 j = CM j := fun j hj hn => (congrFun eC8 j).trans ((va_up_ne _ _ (by omega)).trans (hM j hj hn))
  refine lv_iconst (v := iI (0)) X.1 X.2.1 d_Ff_init_54 (by decide) ?_
  refine lv_istore_n (lv' := [(1, .int (iI (0))), (0, .ref a)]) X.1 X.2.1 d_Ff_init_55 rfl hl (by decide) rfl (fun ls hl => ?_)
  have h95 : ad7 95 = q4 := by rw [ead7, va_up_self]
  have hc95 : C8 95 = aQn cs 16 (fun _ => none) := by rw [eC8, va_up_ne _ _ (by omega), eC7, va_up_self]
  refine l_Ff_init_56 (adL := ad7) (CL := C8) X ev hml hA h95 hO (fun adZ CZ H locs ls w hv hl => ?_) 16 0 ad7 C8 _ _ ls rfl w ⟨fun _ _ => rfl, fun _ _ => rfl, plV_0 hc95⟩ hl
  have hA : adZ 0 = a := (hv.1 0 (by omega)).trans hA
  have hO : CZ 0 = .inr (4, [.ref q1, .ref q2, .ref q3, .ref q4, .null, .null]) := (hv.2.1 0 (by omega)).trans hO
  have hG : ∀ i, i < 1 → adZ i = ad i := fun i hi => (hv.1 i (by omega)).trans (hG i hi)
  have hF : ∀ i, i < 0 → CZ i = C i := fun i hi => absurd hi (Nat.not_lt_zero i)
  have hq_1 : adZ 1 = q1 := (hv.1 1 (by omega)).trans ((hN 1 (by omega)).trans hq_1)
  have hAr : arQ cs adZ CZ := arQ_c (hAr) (fun j hj => (hv.1 j (by omega)).trans (hN j (by omega))) (fun j j1 j2 => (hv.2.1 j (by omega)).trans (hM j (by omega) (by omega)))
  have hq_17 : adZ 17 = q2 := (hv.1 17 (by omega)).trans ((hN 17 (by omega)).trans hq_17)
  have hCu : cuQ cs adZ CZ q1 := cuQ_c (hCu) (fun j hj => (hv.1 j (by omega)).trans (hN j (by omega))) (fun j j1 j2 => (hv.2.1 j (by omega)).trans (hM j (by omega) (by omega)))
  have hq_86 : adZ 86 = q3 := (hv.1 86 (by omega)).trans ((hN 86 (by omega)).trans hq_86)
  have hOs : osQ cs adZ CZ q1 := osQ_c (hOs) (fun j hj => (hv.1 j (by omega)).trans (hN j (by omega))) (fun j j1 j2 => (hv.2.1 j (by omega)).trans (hM j (by omega) (by omega)))
  have hq_95 : adZ 95 = q4 := (hv.1 95 (by omega)).trans h95
  have hRg := hv.2.2
  obtain ⟨adM, eaM⟩ : ∃ z, z = adZ := ⟨_, rfl⟩
  obtain ⟨CM, eCM⟩ : ∃ z, z = CZ := ⟨_, rfl⟩
  rw [← eaM] at hA hG hRg w hq_1 hAr hq_17 hCu hq_86 hOs hq_95
  rw [← eCM] at hO hF hRg w hAr hCu hOs
  have hM : ∀ j, j < 128 → j ≠ 0 → CM j = CM j := fun _ _ _ => rfl
  have hN : ∀ j, j < 128 → adM j = adM j := fun _ _ => rfl
  refine lv_aload_n X.1 X.2.1 d_Ff_init_83 rfl (lv_at hl 0 rfl) ?_
  refine m_poly25 X ev w hml hl.1 k_c_Ff_32 k_m_Ff_38 ⟨(Nat.le_of_ble_eq_true rfl), (Nat.le_of_ble_eq_true rfl)⟩ ⟨(Nat.le_of_ble_eq_true rfl), (Nat.le_of_ble_eq_true rfl)⟩ (Nat.le_of_ble_eq_true rfl) d_Ff_init_84 d_Ff_init_87 d_Ff_init_88 d_Ff_init_90 (fun q5 q6 ad9 C9 H locs ead9 eC9 w => ?_)
  have hA : ad9 0 = a := by rw [ead9]; rw [va_up_ne _ _ (by omega), va_up_ne _ _ (by omega)]; exact hA
  have hO : C9 0 = .inr (4, [.ref q1, .ref q2, .ref q3, .ref q4, .null, .null]) := by rw [eC9, va_up_ne _ _ (by omega), va_up_ne _ _ (by omega)]; exact hO
  have hF : ∀ i, i < 0 → C9 i = C i := fun i hi => (congrFun eC9 i).trans ((va_up_ne _ _ (by omega)).trans ((va_up_ne _ _ (by omega)).trans (hF i hi)))
  have hG : ∀ i, i < 1 → ad9 i = ad i := fun i hi => (congrFun ead9 i).trans ((va_up_ne _ _ (by omega)).trans ((va_up_ne _ _ (by omega)).trans (hG i hi)))
  have hM : ∀ j, j < 128 → j ≠ 0 → C9 j = CM j := fun j hj hn => (congrFun eC9 j).trans ((va_up_ne _ _ (by omega)).trans ((va_up_ne _ _ (by omega)).trans (hM j hj hn)))
  have hN : ∀ j, j < 128 → ad9 j = adM j := fun j hj => (congrFun ead9 j).trans ((va_up_ne _ _ (by omega)).trans ((va_up_ne _ _ (by omega)).trans (hN j hj)))
  have w : Wd D cs A ad9 130 s C9 H _ := w
  refine m_putF (i := 0) (ci := 4) (fs := [.ref q1, .ref q2, .ref q3, .ref q4, .null, .null]) X hnm w hA (by decide) hO rfl k_l_Ff tFf tyFf nFf 4 (by decide) k_f_Ff_41 rfl rfl rfl rfl (Nat.le_of_ble_eq_true rfl) d_Ff_init_93 (fun C10 H locs eC10 w => ?_)
  have hO : C10 0 = .inr (4, [.ref q1, .ref q2, .ref q3, .ref q4, .ref q5, .null]) := by rw [eC10]; exact va_up_self _ _ _
  have hF : ∀ i, i < 0 → C10 i = C i := fun i hi => (congrFun eC10 i).trans ((va_up_ne _ _ (by omega)).trans (hF i hi))
  have hM : ∀ j, j < 128 → j ≠ 0 → C10 j = CM j := fun j hj hn => (congrFun eC10 j).trans ((va_up_ne _ _ (by omega)).trans (hM j hj hn))
  refine lv_aload_n X.1 X.2.1 d_Ff_init_96 rfl (lv_at hl 0 rfl) ?_
  refine m_poly25 X ev w hml hl.1 k_c_Ff_32 k_m_Ff_38 ⟨(Nat.le_of_ble_eq_true rfl), (Nat.le_of_ble_eq_true rfl)⟩ ⟨(Nat.le_of_ble_eq_true rfl), (Nat.le_of_ble_eq_true rfl)⟩ (Nat.le_of_ble_eq_true rfl) d_Ff_init_97 d_Ff_init_100 d_Ff_init_101 d_Ff_init_103 (fun q7 q8 ad11 C11 H locs ead11 eC11 w => ?_)
  have hA : ad11 0 = a := by rw [ead11]; rw [va_up_ne _ _ (by omega), va_up_ne _ _ (by omega)]; exact hA
  have hO : C11 0 = .inr (4, [.ref q1, .ref q2, .ref q3, .ref q4, .ref q5, .null]) := by rw [eC11, va_up_ne _ _ (by omega), va_up_ne _ _ (by omega)]; exact hO
  have hF : ∀ i, i < 0 → C11 i = C i := fun i hi => (congrFun eC11 i).trans ((va_up_ne _ _ (by omega)).trans ((va_up_ne _ _ (by omega)).trans (hF i hi)))
  have hG : ∀ i, i < 1 → ad11 i = ad i := fun i hi => (congrFun ead11 i).trans ((va_up_ne _ _ (by omega)).trans ((va_up_ne _ _ (by omega)).trans (hG i hi)))
  have hM : ∀ j, j < 128 → j ≠ 0 → C11 j = CM j := fun j hj hn => (congrFun eC11 j).trans ((va_up_ne _ _ (by omega)).trans ((va_up_ne _ _ (by omega)).trans (hM j hj hn)))
  have hN : ∀ j, j < 128 → ad11 j = adM j := fun j hj => (congrFun ead11 j).trans ((va_up_ne _ _ (by omega)).trans ((va_up_ne _ _ (by omega)).trans (hN j hj)))
  have w : Wd D cs A ad11 132 s C11 H _ := w
  refine m_putF (i := 0) (ci := 4) (fs := [.ref q1, .ref q2, .ref q3, .ref q4, .ref q5, .null]) X hnm w hA (by decide) hO rfl k_l_Ff tFf tyFf nFf 5 (by decide) k_f_Ff_45 rfl rfl rfl rfl (Nat.le_of_ble_eq_true rfl) d_Ff_init_106 (fun C12 H locs eC12 w => ?_)
  have hO : C12 0 = .inr (4, [.ref q1, .ref q2, .ref q3, .ref q4, .ref q5, .ref q7]) := by rw [eC12]; exact va_up_self _ _ _
  have hF : ∀ i, i < 0 → C12 i = C i := fun i hi => (congrFun eC12 i).trans ((va_up_ne _ _ (by omega)).trans (hF i hi))
  have hM : ∀ j, j < 128 → j ≠ 0 → C12 j = CM j := fun j hj hn => (congrFun eC12 j).trans ((va_up_ne _ _ (by omega)).trans (hM j hj hn))
  have hq_1 : ad11 1 = q1 := (hN 1 (by omega)).trans hq_1
  have hAr : arQ cs ad11 C12 := arQ_c (hAr) (fun j hj => hN j (by omega)) (fun j j1 j2 => hM j (by omega) (by omega))
  have hq_17 : ad11 17 = q2 := (hN 17 (by omega)).trans hq_17
  have hCu : cuQ cs ad11 C12 q1 := cuQ_c (hCu) (fun j hj => hN j (by omega)) (fun j j1 j2 => hM j (by omega) (by omega))
  have hq_86 : ad11 86 = q3 := (hN 86 (by omega)).trans hq_86
  have hOs : osQ cs ad11 C12 q1 := osQ_c (hOs) (fun j hj => hN j (by omega)) (fun j j1 j2 => hM j (by omega) (by omega))
  have hq_95 : ad11 95 = q4 := (hN 95 (by omega)).trans hq_95
  have hRg := plV_c hRg (fun j hj => hN j (by omega)) (hM 95 (by omega) (by omega)) (fun j j1 j2 => hM j (by omega) (by omega))
  refine n_vret (post := ffP cs ad) (mc := 131) (ms := 3302) X hr hlk w ?_ d_Ff_init_109 (Nat.le_of_ble_eq_true rfl) (Nat.le_of_ble_eq_true rfl)
  refine ⟨rfl, hG 0 (by omega), ?_, hAr, ?_, ?_, hRg, ?_⟩
  · rw [hO, hq_1, hq_17, hq_86, hq_95]
    clear hA hO hF hG w hl hM hN hRg hAr hCu hOs hq_1 hq_17 hq_86 hq_95
    subst eC12 eC11 ead11 eC10 eC9 ead9
    rfl
  · rw [hq_1]; exact hCu
  · rw [hq_1]; exact hOs
  · clear hA hO hF hG w hl hM hN hRg hAr hCu hOs hq_1 hq_17 hq_86 hq_95
    subst eC12 eC11 ead11 eC10 eC9 ead9
    exact ⟨⟨rfl, rfl⟩, ⟨rfl, rfl⟩⟩
