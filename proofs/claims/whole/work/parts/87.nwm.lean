/-! the reference's constructor: arrays of rows -/
def mAd (ad : Nat → Nat) (T h : Nat) (i : Nat) : Nat := if i < T then ad i else h + (i - T)
def mC (cs : Nat → ClassId) (C : Nat → va_E) (T n k h : Nat) (i : Nat) : va_E := if i < T then C i else if i = T then aGn cs n (fun j => some (h + 1 + j)) else aI cs k (fun _ => 0)
theorem outer_arr (c : ClassId) (N h0 : Nat) : ∀ i, Jvm.Free.Multi.outerC c N h0 i = arrV c N (fun j => if j < i then .ref (h0 + 1 + j) else .null)
  | 0 => by
    show ({ cls := c, slots := Array.replicate N .null, vm := .none } : Cell) = _
    rw [arrV_new]
    exact arrV_c (fun j _ => by rw [if_neg (Nat.not_lt_zero j)])
  | i + 1 => by
    show (Jvm.Free.Multi.outerC c N h0 i).setSlot i (.ref (h0 + 1 + i)) = _
    rw [outer_arr c N h0 i, arrV_store]
    refine arrV_c (fun j _ => ?_)
    unfold updV
    by_cases e : j = i
    · rw [if_pos e, if_pos (by omega), e]
    · rw [if_neg e]
      by_cases e2 : j < i
      · show (if j < i then Value.ref (h0 + 1 + j) else Value.null) = _
        rw [if_pos e2, if_pos (by omega)]
      · show (if j < i then Value.ref (h0 + 1 + j) else Value.null) = _
        rw [if_neg e2, if_neg (by omega)]
section NWM
variable {p : Program} {l : Launch} {e : Env} {R : Room} {s : State} {m : MethodId} {args : Array Value} {below : List Frame} {meth : Method} {c : Code} {H : Heap} {locs : List Loc} {cells slots : Nat} {Q : State → Prop}
variable {cc : ByteArray} {own : String} {pc : Nat} {ls : Array Slot} {rest st : List Value} {D : va_G} {cs : Nat → ClassId} {A : Nat → Prop} {ad : Nat → Nat} {T : Nat} {C : Nat → va_E} {px : String → (Nat → va_E) → Prop} {k : Nat} {XC : String → State → State → Prop}
theorem n_multi {index : Nat} (n k : Nat) (hn : n < 1000) (hk : k < 1000) (X : Cx p s m args c cc own) (ao : AOI s) (kc : Cond.classLink own index "[[I" ∈ TB) (w : Wd D cs A ad T s C H locs) (hcells : cells + (1 + n) ≤ R.cells) (hslots : slots + (n + n * k) ≤ R.slots) (hdg : decode cc pc = .ok (.multianewarray index 2, 4))
    (kk : ∀ (h : Nat) (H1 : Heap), Wd D cs A (mAd ad T h) (T + 1 + n) s (mC cs C T n k h) H1 locs → W p l e R s m args below meth c H1 locs (cells + 1 + n) (slots + n + n * k) Q (F0 m (pc + 4) ls (.ref h :: rest))) : W p l e R s m args below meth c H locs cells slots Q (F0 m pc ls (.int (iI (k : Int)) :: .int (iI (n : Int)) :: rest)) := by
  intro T0 hT0 X0
  have cn : (iI (n : Int)).toNatClampNeg = n := iI_clamp (by omega)
  have ck : (iI (k : Int)).toNatClampNeg = k := iI_clamp (by omega)
  obtain ⟨vm₁, cA, comp, hW, hfA, hfC, hO, hI, X1, step⟩ := X0.multianewarray2F X.1 (own := own) (index := index) (ty := .int) X.2.2.1 (X.2.2.2 _ kc) ao (X.2.2.2 _ k_ac_int) (g := F0 m pc ls (.int (iI (k : Int)) :: .int (iI (n : Int)) :: rest)) rfl (by rw [X.2.1]; exact hdg) (n := iI (n : Int)) (k := iI (k : Int)) (rest := rest) rfl (fun h => by rw [iI_0, iI_lt (by omega) (by omega)] at h; omega) (fun h => by rw [iI_0, iI_lt (by omega) (by omega)] at h; omega) (by rw [cn]; omega) (by rw [ck]; show k * 4 ≤ _; omega) (by rw [ck]; omega) rfl rfl (by rw [cn]; exact hcells) (by rw [cn, ck]; exact hslots)
  rw [cn, ck] at X1 step
  have hsz : (T0.setVm vm₁).heap.size = H.size := by show T0.heap.size = _; rw [hT0]
  obtain ⟨f1, f2, f3, f4⟩ := Jvm.Free.Multi.fill_facts (T0.setVm vm₁) cA comp n k (defaultValue .int) n
  have eA : cA = cs 3 := Option.some.inj (hfA.symm.trans (w.1.2 3 _ rfl).2)
  have eC : comp = cs 0 := Option.some.inj (hfC.symm.trans (w.1.2 0 _ rfl).2)
  obtain ⟨H1, eH⟩ : ∃ z, z = (Jvm.Free.Multi.fill (T0.setVm vm₁) cA comp n k (defaultValue .int) n).heap := ⟨_, rfl⟩
  have hold : ∀ q, q < H.size → H1[q]? = H[q]? := fun q hq => by
    rw [eH, Jvm.Free.Multi.fill_old _ _ _ _ _ _ (by rw [hsz]; exact hq)]
    show T0.heap[q]? = _
    rw [hT0]
  have hlt : ∀ i, i < T → ad i < H.size := fun i hi => vx_lt w.2.2.2.1 (vW_get hi)
  have w' : Wd D cs A (mAd ad T H.size) (T + 1 + n) s (mC cs C T n k H.size) H1 locs := by
    refine ⟨w.1, ⟨fun i j hi hj e => ?_, fun i hi => ?_⟩, w.2.2.1, fun i q hq => ?_, ?_, fun q hq hA => ?_, w.2.2.2.2.2.2⟩
    · unfold mAd at e
      by_cases h1 : i < T
      · rw [if_pos h1] at e
        have := hlt i h1
        by_cases h2 : j < T
        · rw [if_pos h2] at e; exact w.2.1.1 i j h1 h2 e
        · rw [if_neg h2] at e; omega
      · rw [if_neg h1] at e
        by_cases h2 : j < T
        · rw [if_pos h2] at e; have := hlt j h2; omega
        · rw [if_neg h2] at e; omega
    · unfold mAd
      by_cases h1 : i < T
      · rw [if_pos h1]; exact w.2.1.2 i h1
      · rw [if_neg h1]; exact w.2.2.1 _ (by have := w.2.2.2.2.1; omega)
    · obtain ⟨hi, rfl⟩ := vW_of hq
      unfold mAd mC
      by_cases h1 : i < T
      · rw [if_pos h1, if_pos h1]
        have h9 : va_P D classes (vW ad C T) H1 := vaP_kept w.2.2.2.1 hold
        exact h9 i _ (vW_get h1)
      · rw [if_neg h1, if_neg h1]
        by_cases h2 : i = T
        · rw [if_pos h2, h2, Nat.sub_self, Nat.add_zero]
          show H1[H.size]? = some (vp_cell (cs 3) (n, .inr (.inr (.inr (.inr (fun j => some (H.size + 1 + j)))))))
          rw [vp_cell_q, eH, ← hsz, f2, outer_arr, eA]
          congr 1
          exact arrV_c (fun j hj => by rw [if_pos hj]; rfl)
        · rw [if_neg h2]
          show H1[H.size + (i - T)]? = some (vp_cell (cs 0) (k, .inl (iA (fun _ => 0))))
          rw [vp_cell_i, eH, show H.size + (i - T) = (T0.setVm vm₁).heap.size + 1 + (i - T - 1) by rw [hsz]; omega, Jvm.Free.Multi.fill_inner _ _ _ _ _ _ n (i - T - 1) (by omega), eC]
          congr 1
          show ({ cls := cs 0, slots := Array.replicate k (defaultValue .int), vm := .none } : Cell) = _
          rw [arrV_new]
          exact arrV_c (fun j hj => rfl)
    · rw [eH, f1, hsz]; have := w.2.2.2.2.1; omega
    · have h1 := w.2.2.2.2.1
      rw [hold q (by omega)]
      exact w.2.2.2.2.2.1 q hq hA
  obtain ⟨t, a1, b1⟩ := kk H.size H1 w' (Jvm.Free.Multi.fill (T0.setVm vm₁) cA comp n k (defaultValue .int) n) eH.symm X1
  refine ⟨t, step t ?_, b1⟩
  rw [show T0.heap.size = H.size by rw [hT0]]
  exact a1
theorem m_multi {index : Nat} (n k : Nat) (hn : n < 1000) (hk : k < 1000) (X : Cx p s m args c cc own) (ev : EV A s) (kc : Cond.classLink own index "[[I" ∈ TB) (w : Wd D cs A ad T s C H locs) (hcells : cells + (1 + n) ≤ R.cells) (hslots : slots + (n + n * k) ≤ R.slots) (hdg : decode cc pc = .ok (.multianewarray index 2, 4))
    (kk : ∀ (h : Nat) (ad' : Nat → Nat) (C' : Nat → va_E) (H1 : Heap), ad' = mAd ad T h → C' = mC cs C T n k h → Wd D cs A ad' (T + 1 + n) s C' H1 locs → W p l e R s m args below meth c H1 locs (cells + 1 + n) (slots + n + n * k) Q (F0 m (pc + 4) ls (.ref h :: rest))) : W p l e R s m args below meth c H locs cells slots Q (F0 m pc ls (.int (iI (k : Int)) :: .int (iI (n : Int)) :: rest)) :=
  n_multi n k hn hk X ev.2.2.2.2.1 kc w hcells hslots hdg (fun h H1 w1 => kk h _ _ H1 rfl rfl w1)
end NWM
theorem mAd_o {ad : Nat → Nat} {T h i : Nat} (hi : i < T) : mAd ad T h i = ad i := if_pos hi
theorem mC_o {cs : Nat → ClassId} {C : Nat → va_E} {T n k h i : Nat} (hi : i < T) : mC cs C T n k h i = C i := if_pos hi
theorem m_grV {cs : Nat → ClassId} {ad : Nat → Nat} {C : Nat → va_E} {T n k h : Nat} : grV cs (mAd ad T h) (mC cs C T n k h) T (T + 1) n k := by
  refine ⟨⟨_, by unfold mC; rw [if_neg (Nat.lt_irrefl T), if_pos rfl], fun j hj => ?_⟩, fun j hj => ?_⟩
  · unfold mAd; rw [if_neg (by omega)]; congr 1; omega
  · unfold mC; rw [if_neg (by omega), if_neg (by omega)]
theorem grV_c {cs : Nat → ClassId} {ad ad' : Nat → Nat} {C C' : Nat → va_E} {arr base n m : Nat} (h : grV cs ad C arr base n m) (h1 : ∀ j, base ≤ j → j < base + n → ad' j = ad j) (h2 : C' arr = C arr) (h3 : ∀ j, base ≤ j → j < base + n → C' j = C j) : grV cs ad' C' arr base n m := by
  obtain ⟨⟨f, e1, e2⟩, e3⟩ := h
  exact ⟨⟨f, h2.trans e1, fun j hj => by rw [e2 j hj, h1 (base + j) (by omega) (by omega)]⟩, fun j hj => (h3 (base + j) (by omega) (by omega)).trans (e3 j hj)⟩
theorem moQ_c {cs : Nat → ClassId} {ad1 ad2 : Nat → Nat} {C1 C2 : Nat → va_E} (h : moQ cs ad1 C1) (h1 : ∀ j, j < 212 → ad2 j = ad1 j) (h2 : ∀ j, 132 ≤ j → j < 212 → C2 j = C1 j) : moQ cs ad2 C2 := by
  obtain ⟨a1, a2, a3, a4, a5, a6⟩ := h
  refine ⟨?_, grV_c a2 (fun j _ hj => h1 j (by omega)) (h2 133 (by omega) (by omega)) (fun j _ hj => h2 j (by omega) (by omega)), grV_c a3 (fun j _ hj => h1 j (by omega)) (h2 150 (by omega) (by omega)) (fun j _ hj => h2 j (by omega) (by omega)), (h2 176 (by omega) (by omega)).trans a4, fun k hk => (h2 (177 + k) (by omega) (by omega)).trans (a5 k hk), grV_c a6 (fun j _ hj => h1 j (by omega)) (h2 186 (by omega) (by omega)) (fun j _ hj => h2 j (by omega) (by omega))⟩
  rw [h2 132 (by omega) (by omega), a1]
  simp only [h1 133 (by decide), h1 150 (by decide), h1 176 (by decide), h1 177 (by decide), h1 178 (by decide), h1 179 (by decide), h1 180 (by decide), h1 181 (by decide), h1 182 (by decide), h1 183 (by decide), h1 184 (by decide), h1 185 (by decide), h1 186 (by decide)]
/-- the reference as new: its object at 132 -/
def moP (cs : Nat → ClassId) (ad : Nat → Nat) (C : Nat → va_E) (ad' : Nat → Nat) (T' : Nat) (C' : Nat → va_E) : Prop := T' = 212 ∧ (∀ i, i < 133 → ad' i = ad i) ∧ (∀ i, i < 132 → C' i = C i) ∧ moQ cs ad' C'
theorem c_Mo_init {l : Launch} {D : va_G} {cs : Nat → ClassId} {A : Nat → Prop} {ad : Nat → Nat} {C : Nat → va_E} {a : Nat} (ha : ad 132 = a) (hC : C 132 = .inr (5, [.int 0, .int 0, .null, .null, .null, .int 0, .null, .null, .null, .null, .null, .null, .null, .null, .null, .null])) : Cn l y_Mo_init ws_Mo_init { frames := 1, cells := 79, slots := 3241, locals := 14 } D cs A ad 133 [.ref a] C (moP cs ad C) 79 3241 := by
  refine n_body (by decide) (Nat.le_of_ble_eq_true rfl) rfl ?_
  intro p e s m below meth c X hr hlk hml hnm ev w ls hl
  have hl : lv_has ls 1 [(0, .ref a)] := hl
  have hA : ad 132 = a := ha
  have hO : C 132 = .inr (5, [.int 0, .int 0, .null, .null, .null, .int 0, .null, .null, .null, .null, .null, .null, .null, .null, .null, .null]) := hC
  have hF : ∀ i, i < 132 → C i = C i := fun _ _ => rfl
  have hG : ∀ i, i < 133 → ad i = ad i := fun _ _ => rfl
  refine lv_aload_n X.1 X.2.1 d_Mo_init_0 rfl (lv_at hl 0 rfl) ?_
  refine n_obj (k := 1) X hml hl.1 k_m_Mo_1 d_Mo_init_1 (Nat.le_of_ble_eq_true rfl) (Nat.le_of_ble_eq_true rfl) ?_
  refine lv_aload_n X.1 X.2.1 d_Mo_init_4 rfl (lv_at hl 0 rfl) ?_
  refine lv_iconst (v := iI (0)) X.1 X.2.1 d_Mo_init_5 (by decide) ?_
  refine m_put (i := 132) (ci := 5) (fs := [.int 0, .int 0, .null, .null, .null, .int 0, .null, .null, .null, .null, .null, .null, .null, .null, .null, .null]) X w hA (by decide) hO rfl k_l_Mo tMo tyMo nMo 0 (by decide) k_f_Mo_7 rfl rfl rfl (Nat.le_of_ble_eq_true rfl) d_Mo_init_6 (fun C1 H locs eC1 w => ?_)
  have hO : C1 132 = .inr (5, [.int (iI (0)), .int 0, .null, .null, .null, .int 0, .null, .null, .null, .null, .null, .null, .null, .null, .null, .null]) := by rw [eC1]; exact va_up_self _ _ _
  have hF : ∀ i, i < 132 → C1 i = C i := fun i hi => (congrFun eC1 i).trans ((va_up_ne _ _ (by omega)).trans (hF i hi))
  refine lv_aload_n X.1 X.2.1 d_Mo_init_9 rfl (lv_at hl 0 rfl) ?_
  refine lv_iconst (v := iI (2)) X.1 X.2.1 d_Mo_init_10 (by decide) ?_
  refine m_put (i := 132) (ci := 5) (fs := [.int (iI (0)), .int 0, .null, .null, .null, .int 0, .null, .null, .null, .null, .null, .null, .null, .null, .null, .null]) X w hA (by decide) hO rfl k_l_Mo tMo tyMo nMo 1 (by decide) k_f_Mo_13 rfl rfl rfl (Nat.le_of_ble_eq_true rfl) d_Mo_init_11 (fun C2 H locs eC2 w => ?_)
  have hO : C2 132 = .inr (5, [.int (iI (0)), .int (iI (2)), .null, .null, .null, .int 0, .null, .null, .null, .null, .null, .null, .null, .null, .null, .null]) := by rw [eC2]; exact va_up_self _ _ _
  have hF : ∀ i, i < 132 → C2 i = C i := fun i hi => (congrFun eC2 i).trans ((va_up_ne _ _ (by omega)).trans (hF i hi))
  refine lv_aload_n X.1 X.2.1 d_Mo_init_14 rfl (lv_at hl 0 rfl) ?_
  refine lv_bipush (v := iI (16)) X.1 X.2.1 d_Mo_init_15 (by decide) ?_
  refine lv_bipush (v := iI (50)) X.1 X.2.1 d_Mo_init_17 (by decide) ?_
  refine m_multi 16 50 (by decide) (by decide) X ev k_c_Mo_16 w (Nat.le_of_ble_eq_true rfl) (Nat.le_of_ble_eq_true rfl) d_Mo_init_19 (fun q1 adZ CZ H eadZ eCZ w => ?_)
  have w : Wd D cs A adZ 150 s CZ H _ := w
  have hA : adZ 132 = a := by rw [eadZ, mAd_o (by omega)]; exact hA
  have hO : CZ 132 = .inr (5, [.int (iI (0)), .int (iI (2)), .null, .null, .null, .int 0, .null, .null, .null, .null, .null, .null, .null, .null, .null, .null]) := by rw [eCZ, mC_o (by omega)]; exact hO
  have hF : ∀ i, i < 132 → CZ i = C i := fun i hi => (congrFun eCZ i).trans ((mC_o (by omega)).trans (hF i hi))
  have hG : ∀ i, i < 133 → adZ i = ad i := fun i hi => (congrFun eadZ i).trans ((mAd_o (by omega)).trans (hG i hi))
  have hq_133 : adZ 133 = q1 := by rw [eadZ]; unfold mAd; rw [if_neg (by omega)]; omega
  have hg1 : grV cs adZ CZ 133 134 16 50 := by rw [eadZ, eCZ]; exact m_grV
  obtain ⟨adM, eaM⟩ : ∃ z, z = adZ := ⟨_, rfl⟩
  obtain ⟨CM, eCM⟩ : ∃ z, z = CZ := ⟨_, rfl⟩
  rw [← eaM] at hA hG w hq_133 hg1
  rw [← eCM] at hO hF w hg1
  clear eaM eCM eadZ eCZ
  have hM : ∀ j, j < 150 → j ≠ 132 → CM j = CM j := fun _ _ _ => rfl
  have hN : ∀ j, j < 150 → adM j = adM j := fun _ _ => rfl
  refine m_putF (i := 132) (ci := 5) (fs := [.int (iI (0)), .int (iI (2)), .null, .null, .null, .int 0, .null, .null, .null, .null, .null, .null, .null, .null, .null, .null]) X hnm w hA (by decide) hO rfl k_l_Mo tMo tyMo nMo 2 (by decide) k_f_Mo_18 rfl rfl rfl rfl (Nat.le_of_ble_eq_true rfl) d_Mo_init_23 (fun C3 H locs eC3 w => ?_)
  have hO : C3 132 = .inr (5, [.int (iI (0)), .int (iI (2)), .ref q1, .null, .null, .int 0, .null, .null, .null, .null, .null, .null, .null, .null, .null, .null]) := by rw [eC3]; exact va_up_self _ _ _
  have hF : ∀ i, i < 132 → C3 i = C i := fun i hi => (congrFun eC3 i).trans ((va_up_ne _ _ (by omega)).trans (hF i hi))
  have hM : ∀ j, j < 150 → j ≠ 132 → C3 j = CM j := fun j hj hn => (congrFun eC3 j).trans ((va_up_ne _ _ (by omega)).trans (hM j hj hn))
  refine lv_aload_n X.1 X.2.1 d_Mo_init_26 rfl (lv_at hl 0 rfl) ?_
  refine lv_bipush (v := iI (25)) X.1 X.2.1 d_Mo_init_27 (by decide) ?_
  refine lv_bipush (v := iI (50)) X.1 X.2.1 d_Mo_init_29 (by decide) ?_
  have hq_133 : adM 133 = q1 := (hN 133 (by omega)).trans hq_133
  have hg1 : grV cs adM C3 133 134 16 50 := grV_c hg1 (fun j _ hj => hN j (by omega)) (hM 133 (by omega) (by omega)) (fun j _ hj => hM j (by omega) (by omega))
  refine m_multi 25 50 (by decide) (by decide) X ev k_c_Mo_16 w (Nat.le_of_ble_eq_true rfl) (Nat.le_of_ble_eq_true rfl) d_Mo_init_31 (fun q2 adZ CZ H eadZ eCZ w => ?_)
  have w : Wd D cs A adZ 176 s CZ H _ := w
  have hA : adZ 132 = a := by rw [eadZ, mAd_o (by omega)]; exact hA
  have hO : CZ 132 = .inr (5, [.int (iI (0)), .int (iI (2)), .ref q1, .null, .null, .int 0, .null, .null, .null, .null, .null, .null, .null, .null, .null, .null]) := by rw [eCZ, mC_o (by omega)]; exact hO
  have hF : ∀ i, i < 132 → CZ i = C i := fun i hi => (congrFun eCZ i).trans ((mC_o (by omega)).trans (hF i hi))
  have hG : ∀ i, i < 133 → adZ i = ad i := fun i hi => (congrFun eadZ i).trans ((mAd_o (by omega)).trans (hG i hi))
  have hq_150 : adZ 150 = q2 := by rw [eadZ]; unfold mAd; rw [if_neg (by omega)]; omega
  have hg2 : grV cs adZ CZ 150 151 25 50 := by rw [eadZ, eCZ]; exact m_grV
  have oA : ∀ j, j < 150 → adZ j = adM j := fun j hj => (congrFun eadZ j).trans (mAd_o hj)
  have oC : ∀ j, j < 150 → CZ j = C3 j := fun j hj => (congrFun eCZ j).trans (mC_o hj)
  have hq_133 : adZ 133 = q1 := (oA 133 (by omega)).trans hq_133
  have hg1 : grV cs adZ CZ 133 134 16 50 := grV_c hg1 (fun j _ hj => oA j (by omega)) (oC 133 (by omega)) (fun j _ hj => oC j (by omega))
  obtain ⟨adM, eaM⟩ : ∃ z, z = adZ := ⟨_, rfl⟩
  obtain ⟨CM, eCM⟩ : ∃ z, z = CZ := ⟨_, rfl⟩
  rw [← eaM] at hA hG w hq_133 hg1 hq_150 hg2
  rw [← eCM] at hO hF w hg1 hg2
  clear eaM eCM eadZ eCZ
  have hM : ∀ j, j < 176 → j ≠ 132 → CM j = CM j := fun _ _ _ => rfl
  have hN : ∀ j, j < 176 → adM j = adM j := fun _ _ => rfl
  refine m_putF (i := 132) (ci := 5) (fs := [.int (iI (0)), .int (iI (2)), .ref q1, .null, .null, .int 0, .null, .null, .null, .null, .null, .null, .null, .null, .null, .null]) X hnm w hA (by decide) hO rfl k_l_Mo tMo tyMo nMo 3 (by decide) k_f_Mo_21 rfl rfl rfl rfl (Nat.le_of_ble_eq_true rfl) d_Mo_init_35 (fun C4 H locs eC4 w => ?_)
  have hO : C4 132 = .inr (5, [.int (iI (0)), .int (iI (2)), .ref q1, .ref q2, .null, .int 0, .null, .null, .null, .null, .null, .null, .null, .null, .null, .null]) := by rw [eC4]; exact va_up_self _ _ _
  have hF : ∀ i, i < 132 → C4 i = C i := fun i hi => (congrFun eC4 i).trans ((va_up_ne _ _ (by omega)).trans (hF i hi))
  have hM : ∀ j, j < 176 → j ≠ 132 → C4 j = CM j := fun j hj hn => (congrFun eC4 j).trans ((va_up_ne _ _ (by omega)).trans (hM j hj hn))
  refine lv_aload_n X.1 X.2.1 d_Mo_init_38 rfl (lv_at hl 0 rfl) ?_
  refine lv_bipush (v := iI (25)) X.1 X.2.1 d_Mo_init_39 (by decide) ?_
  refine m_newa 25 rfl (by decide) X w (Nat.le_of_ble_eq_true rfl) (Nat.le_of_ble_eq_true rfl) d_Mo_init_41 (fun q3 ad5 C5 H ead5 eC5 w => ?_)
  have hA : ad5 132 = a := by rw [ead5]; rw [va_up_ne _ _ (by omega)]; exact hA
  have hO : C5 132 = .inr (5, [.int (iI (0)), .int (iI (2)), .ref q1, .ref q2, .null, .int 0, .null, .null, .null, .null, .null, .null, .null, .null, .null, .null]) := by rw [eC5, va_up_ne _ _ (by omega)]; exact hO
  have hF : ∀ i, i < 132 → C5 i = C i := fun i hi => (congrFun eC5 i).trans ((va_up_ne _ _ (by omega)).trans (hF i hi))
  have hG : ∀ i, i < 133 → ad5 i = ad i := fun i hi => (congrFun ead5 i).trans ((va_up_ne _ _ (by omega)).trans (hG i hi))
  have hM : ∀ j, j < 176 → j ≠ 132 → C5 j = CM j := fun j hj hn => (congrFun eC5 j).trans ((va_up_ne _ _ (by omega)).trans (hM j hj hn))
  have hN : ∀ j, j < 176 → ad5 j = adM j := fun j hj => (congrFun ead5 j).trans ((va_up_ne _ _ (by omega)).trans (hN j hj))
  have w : Wd D cs A ad5 177 s C5 H _ := w
  refine m_putF (i := 132) (ci := 5) (fs := [.int (iI (0)), .int (iI (2)), .ref q1, .ref q2, .null, .int 0, .null, .null, .null, .null, .null, .null, .null, .null, .null, .null]) X hnm w hA (by decide) hO rfl k_l_Mo tMo tyMo nMo 4 (by decide) k_f_Mo_24 rfl rfl rfl rfl (Nat.le_of_ble_eq_true rfl) d_Mo_init_43 (fun C6 H locs eC6 w => ?_)
  have hO : C6 132 = .inr (5, [.int (iI (0)), .int (iI (2)), .ref q1, .ref q2, .ref q3, .int 0, .null, .null, .null, .null, .null, .null, .null, .null, .null, .null]) := by rw [eC6]; exact va_up_self _ _ _
  have hF : ∀ i, i < 132 → C6 i = C i := fun i hi => (congrFun eC6 i).trans ((va_up_ne _ _ (by omega)).trans (hF i hi))
  have hM : ∀ j, j < 176 → j ≠ 132 → C6 j = CM j := fun j hj hn => (congrFun eC6 j).trans ((va_up_ne _ _ (by omega)).trans (hM j hj hn))
  refine lv_aload_n X.1 X.2.1 d_Mo_init_46 rfl (lv_at hl 0 rfl) ?_
  refine lv_iconst (v := iI (0)) X.1 X.2.1 d_Mo_init_47 (by decide) ?_
  refine m_put (i := 132) (ci := 5) (fs := [.int (iI (0)), .int (iI (2)), .ref q1, .ref q2, .ref q3, .int 0, .null, .null, .null, .null, .null, .null, .null, .null, .null, .null]) X w hA (by decide) hO rfl k_l_Mo tMo tyMo nMo 5 (by decide) k_f_Mo_28 rfl rfl rfl (Nat.le_of_ble_eq_true rfl) d_Mo_init_48 (fun C7 H locs eC7 w => ?_)
  have hO : C7 132 = .inr (5, [.int (iI (0)), .int (iI (2)), .ref q1, .ref q2, .ref q3, .int (iI (0)), .null, .null, .null, .null, .null, .null, .null, .null, .null, .null]) := by rw [eC7]; exact va_up_self _ _ _
  have hF : ∀ i, i < 132 → C7 i = C i := fun i hi => (congrFun eC7 i).trans ((va_up_ne _ _ (by omega)).trans (hF i hi))
  have hM : ∀ j, j < 176 → j ≠ 132 → C7 j = CM j := fun j hj hn => (congrFun eC7 j).trans ((va_up_ne _ _ (by omega)).trans (hM j hj hn))
  refine lv_aload_n X.1 X.2.1 d_Mo_init_51 rfl (lv_at hl 0 rfl) ?_
  refine lv_bipush (v := iI (50)) X.1 X.2.1 d_Mo_init_52 (by decide) ?_
  refine m_newa 50 rfl (by decide) X w (Nat.le_of_ble_eq_true rfl) (Nat.le_of_ble_eq_true rfl) d_Mo_init_54 (fun q4 ad8 C8 H ead8 eC8 w => ?_)
  have hA : ad8 132 = a := by rw [ead8]; rw [va_up_ne _ _ (by omega)]; exact hA
  have hO : C8 132 = .inr (5, [.int (iI (0)), .int (iI (2)), .ref q1, .ref q2, .ref q3, .int (iI (0)), .null, .null, .null, .null, .null, .null, .null, .null, .null, .null]) := by rw [eC8, va_up_ne _ _ (by omega)]; exact hO
  have hF : ∀ i, i < 132 → C8 i = C i := fun i hi => (congrFun eC8 i).trans ((va_up_ne _ _ (by omega)).trans (hF i hi))
  have hG : ∀ i, i < 133 → ad8 i = ad i := fun i hi => (congrFun ead8 i).trans ((va_up_ne _ _ (by omega)).trans (hG i hi))
  have hM : ∀ j, j < 176 → j ≠ 132 → C8 j = CM j := fun j hj hn => (congrFun eC8 j).trans ((va_up_ne _ _ (by omega)).trans (hM j hj hn))
  have hN : ∀ j, j < 176 → ad8 j = adM j := fun j hj => (congrFun ead8 j).trans ((va_up_ne _ _ (by omega)).trans (hN j hj))
  have w : Wd D cs A ad8 178 s C8 H _ := w
  refine m_putF (i := 132) (ci := 5) (fs := [.int (iI (0)), .int (iI (2)), .ref q1, .ref q2, .ref q3, .int (iI (0)), .null, .null, .null, .null, .null, .null, .null, .null, .null, .null]) X hnm w hA (by decide) hO rfl k_l_Mo tMo tyMo nMo 6 (by decide) k_f_Mo_31 rfl rfl rfl rfl (Nat.le_of_ble_eq_true rfl) d_Mo_init_56 (fun C9 H locs eC9 w => ?_)
  have hO : C9 132 = .inr (5, [.int (iI (0)), .int (iI (2)), .ref q1, .ref q2, .ref q3, .int (iI (0)), .ref q4, .null, .null, .null, .null, .null, .null, .null, .null, .null]) := by rw [eC9]; exact va_up_self _ _ _
  have hF : ∀ i, i < 132 → C9 i = C i := fun i hi => (congrFun eC9 i).trans ((va_up_ne _ _ (by omega)).trans (hF i hi))
  have hM : ∀ j, j < 176 → j ≠ 132 → C9 j = CM j := fun j hj hn => (congrFun eC9 j).trans ((va_up_ne _ _ (by omega)).trans (hM j hj hn))
  refine lv_aload_n X.1 X.2.1 d_Mo_init_59 rfl (lv_at hl 0 rfl) ?_
  refine lv_bipush (v := iI (50)) X.1 X.2.1 d_Mo_init_60 (by decide) ?_
  refine m_newa 50 rfl (by decide) X w (Nat.le_of_ble_eq_true rfl) (Nat.le_of_ble_eq_true rfl) d_Mo_init_62 (fun q5 ad10 C10 H ead10 eC10 w => ?_)
  have hA : ad10 132 = a := by rw [ead10]; rw [va_up_ne _ _ (by omega)]; exact hA
  have hO : C10 132 = .inr (5, [.int (iI (0)), .int (iI (2)), .ref q1, .ref q2, .ref q3, .int (iI (0)), .ref q4, .null, .null, .null, .null, .null, .null, .null, .null, .null]) := by rw [eC10, va_up_ne _ _ (by omega)]; exact hO
  have hF : ∀ i, i < 132 → C10 i = C i := fun i hi => (congrFun eC10 i).trans ((va_up_ne _ _ (by omega)).trans (hF i hi))
  have hG : ∀ i, i < 133 → ad10 i = ad i := fun i hi => (congrFun ead10 i).trans ((va_up_ne _ _ (by omega)).trans (hG i hi))
  have hM : ∀ j, j < 176 → j ≠ 132 → C10 j = CM j := fun j hj hn => (congrFun eC10 j).trans ((va_up_ne _ _ (by omega)).trans (hM j hj hn))
  have hN : ∀ j, j < 176 → ad10 j = adM j := fun j hj => (congrFun ead10 j).trans ((va_up_ne _ _ (by omega)).trans (hN j hj))
  have w : Wd D cs A ad10 179 s C10 H _ := w
  refine m_putF (i := 132) (ci := 5) (fs := [.int (iI (0)), .int (iI (2)), .ref q1, .ref q2, .ref q3, .int (iI (0)), .ref q4, .null, .null, .null, .null, .null, .null, .null, .null, .null]) X hnm w hA (by decide) hO rfl k_l_Mo tMo tyMo nMo 7 (by decide) k_f_Mo_34 rfl rfl rfl rfl (Nat.le_of_ble_eq_true rfl) d_Mo_init_64 (fun C11 H locs eC11 w => ?_)
  have hO : C11 132 = .inr (5, [.int (iI (0)), .int (iI (2)), .ref q1, .ref q2, .ref q3, .int (iI (0)), .ref q4, .ref q5, .null, .null, .null, .null, .null, .null, .null, .null]) := by rw [eC11]; exact va_up_self _ _ _
  have hF : ∀ i, i < 132 → C11 i = C i := fun i hi => (congrFun eC11 i).trans ((va_up_ne _ _ (by omega)).trans (hF i hi))
  have hM : ∀ j, j < 176 → j ≠ 132 → C11 j = CM j := fun j hj hn => (congrFun eC11 j).trans ((va_up_ne _ _ (by omega)).trans (hM j hj hn))
  refine lv_aload_n X.1 X.2.1 d_Mo_init_67 rfl (lv_at hl 0 rfl) ?_
  refine lv_bipush (v := iI (50)) X.1 X.2.1 d_Mo_init_68 (by decide) ?_
  refine m_newa 50 rfl (by decide) X w (Nat.le_of_ble_eq_true rfl) (Nat.le_of_ble_eq_true rfl) d_Mo_init_70 (fun q6 ad12 C12 H ead12 eC12 w => ?_)
  have hA : ad12 132 = a := by rw [ead12]; rw [va_up_ne _ _ (by omega)]; exact hA
  have hO : C12 132 = .inr (5, [.int (iI (0)), .int (iI (2)), .ref q1, .ref q2, .ref q3, .int (iI (0)), .ref q4, .ref q5, .null, .null, .null, .null, .null, .null, .null, .null]) := by rw [eC12, va_up_ne _ _ (by omega)]; exact hO
  have hF : ∀ i, i < 132 → C12 i = C i := fun i hi => (congrFun eC12 i).trans ((va_up_ne _ _ (by omega)).trans (hF i hi))
  have hG : ∀ i, i < 133 → ad12 i = ad i := fun i hi => (congrFun ead12 i).trans ((va_up_ne _ _ (by omega)).trans (hG i hi))
  have hM : ∀ j, j < 176 → j ≠ 132 → C12 j = CM j := fun j hj hn => (congrFun eC12 j).trans ((va_up_ne _ _ (by omega)).trans (hM j hj hn))
  have hN : ∀ j, j < 176 → ad12 j = adM j := fun j hj => (congrFun ead12 j).trans ((va_up_ne _ _ (by omega)).trans (hN j hj))
  have w : Wd D cs A ad12 180 s C12 H _ := w
  refine m_putF (i := 132) (ci := 5) (fs := [.int (iI (0)), .int (iI (2)), .ref q1, .ref q2, .ref q3, .int (iI (0)), .ref q4, .ref q5, .null, .null, .null, .null, .null, .null, .null, .null]) X hnm w hA (by decide) hO rfl k_l_Mo tMo tyMo nMo 8 (by decide) k_f_Mo_37 rfl rfl rfl rfl (Nat.le_of_ble_eq_true rfl) d_Mo_init_72 (fun C13 H locs eC13 w => ?_)
  have hO : C13 132 = .inr (5, [.int (iI (0)), .int (iI (2)), .ref q1, .ref q2, .ref q3, .int (iI (0)), .ref q4, .ref q5, .ref q6, .null, .null, .null, .null, .null, .null, .null]) := by rw [eC13]; exact va_up_self _ _ _
  have hF : ∀ i, i < 132 → C13 i = C i := fun i hi => (congrFun eC13 i).trans ((va_up_ne _ _ (by omega)).trans (hF i hi))
  have hM : ∀ j, j < 176 → j ≠ 132 → C13 j = CM j := fun j hj hn => (congrFun eC13 j).trans ((va_up_ne _ _ (by omega)).trans (hM j hj hn))
  refine lv_aload_n X.1 X.2.1 d_Mo_init_75 rfl (lv_at hl 0 rfl) ?_
  refine lv_bipush (v := iI (50)) X.1 X.2.1 d_Mo_init_76 (by decide) ?_
  refine m_newa 50 rfl (by decide) X w (Nat.le_of_ble_eq_true rfl) (Nat.le_of_ble_eq_true rfl) d_Mo_init_78 (fun q7 ad14 C14 H ead14 eC14 w => ?_)
  have hA : ad14 132 = a := by rw [ead14]; rw [va_up_ne _ _ (by omega)]; exact hA
  have hO : C14 132 = .inr (5, [.int (iI (0)), .int (iI (2)), .ref q1, .ref q2, .ref q3, .int (iI (0)), .ref q4, .ref q5, .ref q6, .null, .null, .null, .null, .null, .null, .null]) := by rw [eC14, va_up_ne _ _ (by omega)]; exact hO
  have hF : ∀ i, i < 132 → C14 i = C i := fun i hi => (congrFun eC14 i).trans ((va_up_ne _ _ (by omega)).trans (hF i hi))
  have hG : ∀ i, i < 133 → ad14 i = ad i := fun i hi => (congrFun ead14 i).trans ((va_up_ne _ _ (by omega)).trans (hG i hi))
  have hM : ∀ j, j < 176 → j ≠ 132 → C14 j = CM j := fun j hj hn => (congrFun eC14 j).trans ((va_up_ne _ _ (by omega)).trans (hM j hj hn))
  have hN : ∀ j, j < 176 → ad14 j = adM j := fun j hj => (congrFun ead14 j).trans ((va_up_ne _ _ (by omega)).trans (hN j hj))
  have w : Wd D cs A ad14 181 s C14 H _ := w
  refine m_putF (i := 132) (ci := 5) (fs := [.int (iI (0)), .int (iI (2)), .ref q1, .ref q2, .ref q3, .int (iI (0)), .ref q4, .ref q5, .ref q6, .null, .null, .null, .null, .null, .null, .null]) X hnm w hA (by decide) hO rfl k_l_Mo tMo tyMo nMo 9 (by decide) k_f_Mo_40 rfl rfl rfl rfl (Nat.le_of_ble_eq_true rfl) d_Mo_init_80 (fun C15 H locs eC15 w => ?_)
  have hO : C15 132 = .inr (5, [.int (iI (0)), .int (iI (2)), .ref q1, .ref q2, .ref q3, .int (iI (0)), .ref q4, .ref q5, .ref q6, .ref q7, .null, .null, .null, .null, .null, .null]) := by rw [eC15]; exact va_up_self _ _ _
  have hF : ∀ i, i < 132 → C15 i = C i := fun i hi => (congrFun eC15 i).trans ((va_up_ne _ _ (by omega)).trans (hF i hi))
  have hM : ∀ j, j < 176 → j ≠ 132 → C15 j = CM j := fun j hj hn => (congrFun eC15 j).trans ((va_up_ne _ _ (by omega)).trans (hM j hj hn))
  refine lv_aload_n X.1 X.2.1 d_Mo_init_83 rfl (lv_at hl 0 rfl) ?_
  refine lv_bipush (v := iI (50)) X.1 X.2.1 d_Mo_init_84 (by decide) ?_
  refine m_newa 50 rfl (by decide) X w (Nat.le_of_ble_eq_true rfl) (Nat.le_of_ble_eq_true rfl) d_Mo_init_86 (fun q8 ad16 C16 H ead16 eC16 w => ?_)
  have hA : ad16 132 = a := by rw [ead16]; rw [va_up_ne _ _ (by omega)]; exact hA
  have hO : C16 132 = .inr (5, [.int (iI (0)), .int (iI (2)), .ref q1, .ref q2, .ref q3, .int (iI (0)), .ref q4, .ref q5, .ref q6, .ref q7, .null, .null, .null, .null, .null, .null]) := by rw [eC16, va_up_ne _ _ (by omega)]; exact hO
  have hF : ∀ i, i < 132 → C16 i = C i := fun i hi => (congrFun eC16 i).trans ((va_up_ne _ _ (by omega)).trans (hF i hi))
  have hG : ∀ i, i < 133 → ad16 i = ad i := fun i hi => (congrFun ead16 i).trans ((va_up_ne _ _ (by omega)).trans (hG i hi))
  have hM : ∀ j, j < 176 → j ≠ 132 → C16 j = CM j := fun j hj hn => (congrFun eC16 j).trans ((va_up_ne _ _ (by omega)).trans (hM j hj hn))
  have hN : ∀ j, j < 176 → ad16 j = adM j := fun j hj => (congrFun ead16 j).trans ((va_up_ne _ _ (by omega)).trans (hN j hj))
  have w : Wd D cs A ad16 182 s C16 H _ := w
  refine m_putF (i := 132) (ci := 5) (fs := [.int (iI (0)), .int (iI (2)), .ref q1, .ref q2, .ref q3, .int (iI (0)), .ref q4, .ref q5, .ref q6, .ref q7, .null, .null, .null, .null, .null, .null]) X hnm w hA (by decide) hO rfl k_l_Mo tMo tyMo nMo 10 (by decide) k_f_Mo_43 rfl rfl rfl rfl (Nat.le_of_ble_eq_true rfl) d_Mo_init_88 (fun C17 H locs eC17 w => ?_)
  have hO : C17 132 = .inr (5, [.int (iI (0)), .int (iI (2)), .ref q1, .ref q2, .ref q3, .int (iI (0)), .ref q4, .ref q5, .ref q6, .ref q7, .ref q8, .null, .null, .null, .null, .null]) := by rw [eC17]; exact va_up_self _ _ _
  have hF : ∀ i, i < 132 → C17 i = C i := fun i hi => (congrFun eC17 i).trans ((va_up_ne _ _ (by omega)).trans (hF i hi))
  have hM : ∀ j, j < 176 → j ≠ 132 → C17 j = CM j := fun j hj hn => (congrFun eC17 j).trans ((va_up_ne _ _ (by omega)).trans (hM j hj hn))
  refine lv_aload_n X.1 X.2.1 d_Mo_init_91 rfl (lv_at hl 0 rfl) ?_
  refine lv_bipush (v := iI (50)) X.1 X.2.1 d_Mo_init_92 (by decide) ?_
  refine m_newa 50 rfl (by decide) X w (Nat.le_of_ble_eq_true rfl) (Nat.le_of_ble_eq_true rfl) d_Mo_init_94 (fun q9 ad18 C18 H ead18 eC18 w => ?_)
  have hA : ad18 132 = a := by rw [ead18]; rw [va_up_ne _ _ (by omega)]; exact hA
  have hO : C18 132 = .inr (5, [.int (iI (0)), .int (iI (2)), .ref q1, .ref q2, .ref q3, .int (iI (0)), .ref q4, .ref q5, .ref q6, .ref q7, .ref q8, .null, .null, .null, .null, .null]) := by rw [eC18, va_up_ne _ _ (by omega)]; exact hO
  have hF : ∀ i, i < 132 → C18 i = C i := fun i hi => (congrFun eC18 i).trans ((va_up_ne _ _ (by omega)).trans (hF i hi))
  have hG : ∀ i, i < 133 → ad18 i = ad i := fun i hi => (congrFun ead18 i).trans ((va_up_ne _ _ (by omega)).trans (hG i hi))
  have hM : ∀ j, j < 176 → j ≠ 132 → C18 j = CM j := fun j hj hn => (congrFun eC18 j).trans ((va_up_ne _ _ (by omega)).trans (hM j hj hn))
  have hN : ∀ j, j < 176 → ad18 j = adM j := fun j hj => (congrFun ead18 j).trans ((va_up_ne _ _ (by omega)).trans (hN j hj))
  have w : Wd D cs A ad18 183 s C18 H _ := w
  refine m_putF (i := 132) (ci := 5) (fs := [.int (iI (0)), .int (iI (2)), .ref q1, .ref q2, .ref q3, .int (iI (0)), .ref q4, .ref q5, .ref q6, .ref q7, .ref q8, .null, .null, .null, .null, .null]) X hnm w hA (by decide) hO rfl k_l_Mo tMo tyMo nMo 11 (by decide) k_f_Mo_46 rfl rfl rfl rfl (Nat.le_of_ble_eq_true rfl) d_Mo_init_96 (fun C19 H locs eC19 w => ?_)
  have hO : C19 132 = .inr (5, [.int (iI (0)), .int (iI (2)), .ref q1, .ref q2, .ref q3, .int (iI (0)), .ref q4, .ref q5, .ref q6, .ref q7, .ref q8, .ref q9, .null, .null, .null, .null]) := by rw [eC19]; exact va_up_self _ _ _
  have hF : ∀ i, i < 132 → C19 i = C i := fun i hi => (congrFun eC19 i).trans ((va_up_ne _ _ (by omega)).trans (hF i hi))
  have hM : ∀ j, j < 176 → j ≠ 132 → C19 j = CM j := fun j hj hn => (congrFun eC19 j).trans ((va_up_ne _ _ (by omega)).trans (hM j hj hn))
  refine lv_aload_n X.1 X.2.1 d_Mo_init_99 rfl (lv_at hl 0 rfl) ?_
  refine lv_bipush (v := iI (50)) X.1 X.2.1 d_Mo_init_100 (by decide) ?_
  refine m_newa 50 rfl (by decide) X w (Nat.le_of_ble_eq_true rfl) (Nat.le_of_ble_eq_true rfl) d_Mo_init_102 (fun q10 ad20 C20 H ead20 eC20 w => ?_)
  have hA : ad20 132 = a := by rw [ead20]; rw [va_up_ne _ _ (by omega)]; exact hA
  have hO : C20 132 = .inr (5, [.int (iI (0)), .int (iI (2)), .ref q1, .ref q2, .ref q3, .int (iI (0)), .ref q4, .ref q5, .ref q6, .ref q7, .ref q8, .ref q9, .null, .null, .null, .null]) := by rw [eC20, va_up_ne _ _ (by omega)]; exact hO
  have hF : ∀ i, i < 132 → C20 i = C i := fun i hi => (congrFun eC20 i).trans ((va_up_ne _ _ (by omega)).trans (hF i hi))
  have hG : ∀ i, i < 133 → ad20 i = ad i := fun i hi => (congrFun ead20 i).trans ((va_up_ne _ _ (by omega)).trans (hG i hi))
  have hM : ∀ j, j < 176 → j ≠ 132 → C20 j = CM j := fun j hj hn => (congrFun eC20 j).trans ((va_up_ne _ _ (by omega)).trans (hM j hj hn))
  have hN : ∀ j, j < 176 → ad20 j = adM j := fun j hj => (congrFun ead20 j).trans ((va_up_ne _ _ (by omega)).trans (hN j hj))
  have w : Wd D cs A ad20 184 s C20 H _ := w
  refine m_putF (i := 132) (ci := 5) (fs := [.int (iI (0)), .int (iI (2)), .ref q1, .ref q2, .ref q3, .int (iI (0)), .ref q4, .ref q5, .ref q6, .ref q7, .ref q8, .ref q9, .null, .null, .null, .null]) X hnm w hA (by decide) hO rfl k_l_Mo tMo tyMo nMo 12 (by decide) k_f_Mo_49 rfl rfl rfl rfl (Nat.le_of_ble_eq_true rfl) d_Mo_init_104 (fun C21 H locs eC21 w => ?_)
  have hO : C21 132 = .inr (5, [.int (iI (0)), .int (iI (2)), .ref q1, .ref q2, .ref q3, .int (iI (0)), .ref q4, .ref q5, .ref q6, .ref q7, .ref q8, .ref q9, .ref q10, .null, .null, .null]) := by rw [eC21]; exact va_up_self _ _ _
  have hF : ∀ i, i < 132 → C21 i = C i := fun i hi => (congrFun eC21 i).trans ((va_up_ne _ _ (by omega)).trans (hF i hi))
  have hM : ∀ j, j < 176 → j ≠ 132 → C21 j = CM j := fun j hj hn => (congrFun eC21 j).trans ((va_up_ne _ _ (by omega)).trans (hM j hj hn))
  refine lv_aload_n X.1 X.2.1 d_Mo_init_107 rfl (lv_at hl 0 rfl) ?_
  refine lv_bipush (v := iI (50)) X.1 X.2.1 d_Mo_init_108 (by decide) ?_
  refine m_newa 50 rfl (by decide) X w (Nat.le_of_ble_eq_true rfl) (Nat.le_of_ble_eq_true rfl) d_Mo_init_110 (fun q11 ad22 C22 H ead22 eC22 w => ?_)
  have hA : ad22 132 = a := by rw [ead22]; rw [va_up_ne _ _ (by omega)]; exact hA
  have hO : C22 132 = .inr (5, [.int (iI (0)), .int (iI (2)), .ref q1, .ref q2, .ref q3, .int (iI (0)), .ref q4, .ref q5, .ref q6, .ref q7, .ref q8, .ref q9, .ref q10, .null, .null, .null]) := by rw [eC22, va_up_ne _ _ (by omega)]; exact hO
  have hF : ∀ i, i < 132 → C22 i = C i := fun i hi => (congrFun eC22 i).trans ((va_up_ne _ _ (by omega)).trans (hF i hi))
  have hG : ∀ i, i < 133 → ad22 i = ad i := fun i hi => (congrFun ead22 i).trans ((va_up_ne _ _ (by omega)).trans (hG i hi))
  have hM : ∀ j, j < 176 → j ≠ 132 → C22 j = CM j := fun j hj hn => (congrFun eC22 j).trans ((va_up_ne _ _ (by omega)).trans (hM j hj hn))
  have hN : ∀ j, j < 176 → ad22 j = adM j := fun j hj => (congrFun ead22 j).trans ((va_up_ne _ _ (by omega)).trans (hN j hj))
  have w : Wd D cs A ad22 185 s C22 H _ := w
  refine m_putF (i := 132) (ci := 5) (fs := [.int (iI (0)), .int (iI (2)), .ref q1, .ref q2, .ref q3, .int (iI (0)), .ref q4, .ref q5, .ref q6, .ref q7, .ref q8, .ref q9, .ref q10, .null, .null, .null]) X hnm w hA (by decide) hO rfl k_l_Mo tMo tyMo nMo 13 (by decide) k_f_Mo_52 rfl rfl rfl rfl (Nat.le_of_ble_eq_true rfl) d_Mo_init_112 (fun C23 H locs eC23 w => ?_)
  have hO : C23 132 = .inr (5, [.int (iI (0)), .int (iI (2)), .ref q1, .ref q2, .ref q3, .int (iI (0)), .ref q4, .ref q5, .ref q6, .ref q7, .ref q8, .ref q9, .ref q10, .ref q11, .null, .null]) := by rw [eC23]; exact va_up_self _ _ _
  have hF : ∀ i, i < 132 → C23 i = C i := fun i hi => (congrFun eC23 i).trans ((va_up_ne _ _ (by omega)).trans (hF i hi))
  have hM : ∀ j, j < 176 → j ≠ 132 → C23 j = CM j := fun j hj hn => (congrFun eC23 j).trans ((va_up_ne _ _ (by omega)).trans (hM j hj hn))
  refine lv_aload_n X.1 X.2.1 d_Mo_init_115 rfl (lv_at hl 0 rfl) ?_
  refine lv_bipush (v := iI (50)) X.1 X.2.1 d_Mo_init_116 (by decide) ?_
  refine m_newa 50 rfl (by decide) X w (Nat.le_of_ble_eq_true rfl) (Nat.le_of_ble_eq_true rfl) d_Mo_init_118 (fun q12 ad24 C24 H ead24 eC24 w => ?_)
  have hA : ad24 132 = a := by rw [ead24]; rw [va_up_ne _ _ (by omega)]; exact hA
  have hO : C24 132 = .inr (5, [.int (iI (0)), .int (iI (2)), .ref q1, .ref q2, .ref q3, .int (iI (0)), .ref q4, .ref q5, .ref q6, .ref q7, .ref q8, .ref q9, .ref q10, .ref q11, .null, .null]) := by rw [eC24, va_up_ne _ _ (by omega)]; exact hO
  have hF : ∀ i, i < 132 → C24 i = C i := fun i hi => (congrFun eC24 i).trans ((va_up_ne _ _ (by omega)).trans (hF i hi))
  have hG : ∀ i, i < 133 → ad24 i = ad i := fun i hi => (congrFun ead24 i).trans ((va_up_ne _ _ (by omega)).trans (hG i hi))
  have hM : ∀ j, j < 176 → j ≠ 132 → C24 j = CM j := fun j hj hn => (congrFun eC24 j).trans ((va_up_ne _ _ (by omega)).trans (hM j hj hn))
  have hN : ∀ j, j < 176 → ad24 j = adM j := fun j hj => (congrFun ead24 j).trans ((va_up_ne _ _ (by omega)).trans (hN j hj))
  have w : Wd D cs A ad24 186 s C24 H _ := w
  refine m_putF (i := 132) (ci := 5) (fs := [.int (iI (0)), .int (iI (2)), .ref q1, .ref q2, .ref q3, .int (iI (0)), .ref q4, .ref q5, .ref q6, .ref q7, .ref q8, .ref q9, .ref q10, .ref q11, .null, .null]) X hnm w hA (by decide) hO rfl k_l_Mo tMo tyMo nMo 14 (by decide) k_f_Mo_55 rfl rfl rfl rfl (Nat.le_of_ble_eq_true rfl) d_Mo_init_120 (fun C25 H locs eC25 w => ?_)
  have hO : C25 132 = .inr (5, [.int (iI (0)), .int (iI (2)), .ref q1, .ref q2, .ref q3, .int (iI (0)), .ref q4, .ref q5, .ref q6, .ref q7, .ref q8, .ref q9, .ref q10, .ref q11, .ref q12, .null]) := by rw [eC25]; exact va_up_self _ _ _
  have hF : ∀ i, i < 132 → C25 i = C i := fun i hi => (congrFun eC25 i).trans ((va_up_ne _ _ (by omega)).trans (hF i hi))
  have hM : ∀ j, j < 176 → j ≠ 132 → C25 j = CM j := fun j hj hn => (congrFun eC25 j).trans ((va_up_ne _ _ (by omega)).trans (hM j hj hn))
  refine lv_aload_n X.1 X.2.1 d_Mo_init_123 rfl (lv_at hl 0 rfl) ?_
  refine lv_bipush (v := iI (25)) X.1 X.2.1 d_Mo_init_124 (by decide) ?_
  refine lv_bipush (v := iI (26)) X.1 X.2.1 d_Mo_init_126 (by decide) ?_
  have hq_133 : ad24 133 = q1 := (hN 133 (by omega)).trans hq_133
  have hg1 : grV cs ad24 C25 133 134 16 50 := grV_c hg1 (fun j _ hj => hN j (by omega)) (hM 133 (by omega) (by omega)) (fun j _ hj => hM j (by omega) (by omega))
  have hq_150 : ad24 150 = q2 := (hN 150 (by omega)).trans hq_150
  have hg2 : grV cs ad24 C25 150 151 25 50 := grV_c hg2 (fun j _ hj => hN j (by omega)) (hM 150 (by omega) (by omega)) (fun j _ hj => hM j (by omega) (by omega))
  have hq_176 : ad24 176 = q3 := by
    clear hA hO hF hG w hl hM hN hq_133 hg1 hq_150 hg2
    subst ead24 ead22 ead20 ead18 ead16 ead14 ead12 ead10 ead8 ead5
    rfl
  have hc_176 : C25 176 = aI cs 25 (fun _ => 0) := by
    clear hA hO hF hG w hl hM hN hq_176 hq_133 hg1 hq_150 hg2 
    subst eC25 eC24 ead24 eC23 eC22 ead22 eC21 eC20 ead20 eC19 eC18 ead18 eC17 eC16 ead16 eC15 eC14 ead14 eC13 eC12 ead12 eC11 eC10 ead10 eC9 eC8 ead8 eC7 eC6 eC5 ead5 eC4
    rfl
  have hq_177 : ad24 177 = q4 := by
    clear hA hO hF hG w hl hM hN hq_133 hg1 hq_150 hg2
    subst ead24 ead22 ead20 ead18 ead16 ead14 ead12 ead10 ead8 ead5
    rfl
  have hc_177 : C25 177 = aI cs 50 (fun _ => 0) := by
    clear hA hO hF hG w hl hM hN hq_177 hq_133 hg1 hq_150 hg2 hq_176 hc_176
    subst eC25 eC24 ead24 eC23 eC22 ead22 eC21 eC20 ead20 eC19 eC18 ead18 eC17 eC16 ead16 eC15 eC14 ead14 eC13 eC12 ead12 eC11 eC10 ead10 eC9 eC8 ead8 eC7 eC6 eC5 ead5 eC4
    rfl
  have hq_178 : ad24 178 = q5 := by
    clear hA hO hF hG w hl hM hN hq_133 hg1 hq_150 hg2
    subst ead24 ead22 ead20 ead18 ead16 ead14 ead12 ead10 ead8 ead5
    rfl
  have hc_178 : C25 178 = aI cs 50 (fun _ => 0) := by
    clear hA hO hF hG w hl hM hN hq_178 hq_133 hg1 hq_150 hg2 hq_176 hc_176 hq_177 hc_177
    subst eC25 eC24 ead24 eC23 eC22 ead22 eC21 eC20 ead20 eC19 eC18 ead18 eC17 eC16 ead16 eC15 eC14 ead14 eC13 eC12 ead12 eC11 eC10 ead10 eC9 eC8 ead8 eC7 eC6 eC5 ead5 eC4
    rfl
  have hq_179 : ad24 179 = q6 := by
    clear hA hO hF hG w hl hM hN hq_133 hg1 hq_150 hg2
    subst ead24 ead22 ead20 ead18 ead16 ead14 ead12 ead10 ead8 ead5
    rfl
  have hc_179 : C25 179 = aI cs 50 (fun _ => 0) := by
    clear hA hO hF hG w hl hM hN hq_179 hq_133 hg1 hq_150 hg2 hq_176 hc_176 hq_177 hc_177 hq_178 hc_178
    subst eC25 eC24 ead24 eC23 eC22 ead22 eC21 eC20 ead20 eC19 eC18 ead18 eC17 eC16 ead16 eC15 eC14 ead14 eC13 eC12 ead12 eC11 eC10 ead10 eC9 eC8 ead8 eC7 eC6 eC5 ead5 eC4
    rfl
  have hq_180 : ad24 180 = q7 := by
    clear hA hO hF hG w hl hM hN hq_133 hg1 hq_150 hg2
    subst ead24 ead22 ead20 ead18 ead16 ead14 ead12 ead10 ead8 ead5
    rfl
  have hc_180 : C25 180 = aI cs 50 (fun _ => 0) := by
    clear hA hO hF hG w hl hM hN hq_180 hq_133 hg1 hq_150 hg2 hq_176 hc_176 hq_177 hc_177 hq_178 hc_178 hq_179 hc_179
    subst eC25 eC24 ead24 eC23 eC22 ead22 eC21 eC20 ead20 eC19 eC18 ead18 eC17 eC16 ead16 eC15 eC14 ead14 eC13 eC12 ead12 eC11 eC10 ead10 eC9 eC8 ead8 eC7 eC6 eC5 ead5 eC4
    rfl
  have hq_181 : ad24 181 = q8 := by
    clear hA hO hF hG w hl hM hN hq_133 hg1 hq_150 hg2
    subst ead24 ead22 ead20 ead18 ead16 ead14 ead12 ead10 ead8 ead5
    rfl
  have hc_181 : C25 181 = aI cs 50 (fun _ => 0) := by
    clear hA hO hF hG w hl hM hN hq_181 hq_133 hg1 hq_150 hg2 hq_176 hc_176 hq_177 hc_177 hq_178 hc_178 hq_179 hc_179 hq_180 hc_180
    subst eC25 eC24 ead24 eC23 eC22 ead22 eC21 eC20 ead20 eC19 eC18 ead18 eC17 eC16 ead16 eC15 eC14 ead14 eC13 eC12 ead12 eC11 eC10 ead10 eC9 eC8 ead8 eC7 eC6 eC5 ead5 eC4
    rfl
  have hq_182 : ad24 182 = q9 := by
    clear hA hO hF hG w hl hM hN hq_133 hg1 hq_150 hg2
    subst ead24 ead22 ead20 ead18 ead16 ead14 ead12 ead10 ead8 ead5
    rfl
  have hc_182 : C25 182 = aI cs 50 (fun _ => 0) := by
    clear hA hO hF hG w hl hM hN hq_182 hq_133 hg1 hq_150 hg2 hq_176 hc_176 hq_177 hc_177 hq_178 hc_178 hq_179 hc_179 hq_180 hc_180 hq_181 hc_181
    subst eC25 eC24 ead24 eC23 eC22 ead22 eC21 eC20 ead20 eC19 eC18 ead18 eC17 eC16 ead16 eC15 eC14 ead14 eC13 eC12 ead12 eC11 eC10 ead10 eC9 eC8 ead8 eC7 eC6 eC5 ead5 eC4
    rfl
  have hq_183 : ad24 183 = q10 := by
    clear hA hO hF hG w hl hM hN hq_133 hg1 hq_150 hg2
    subst ead24 ead22 ead20 ead18 ead16 ead14 ead12 ead10 ead8 ead5
    rfl
  have hc_183 : C25 183 = aI cs 50 (fun _ => 0) := by
    clear hA hO hF hG w hl hM hN hq_183 hq_133 hg1 hq_150 hg2 hq_176 hc_176 hq_177 hc_177 hq_178 hc_178 hq_179 hc_179 hq_180 hc_180 hq_181 hc_181 hq_182 hc_182
    subst eC25 eC24 ead24 eC23 eC22 ead22 eC21 eC20 ead20 eC19 eC18 ead18 eC17 eC16 ead16 eC15 eC14 ead14 eC13 eC12 ead12 eC11 eC10 ead10 eC9 eC8 ead8 eC7 eC6 eC5 ead5 eC4
    rfl
  have hq_184 : ad24 184 = q11 := by
    clear hA hO hF hG w hl hM hN hq_133 hg1 hq_150 hg2
    subst ead24 ead22 ead20 ead18 ead16 ead14 ead12 ead10 ead8 ead5
    rfl
  have hc_184 : C25 184 = aI cs 50 (fun _ => 0) := by
    clear hA hO hF hG w hl hM hN hq_184 hq_133 hg1 hq_150 hg2 hq_176 hc_176 hq_177 hc_177 hq_178 hc_178 hq_179 hc_179 hq_180 hc_180 hq_181 hc_181 hq_182 hc_182 hq_183 hc_183
    subst eC25 eC24 ead24 eC23 eC22 ead22 eC21 eC20 ead20 eC19 eC18 ead18 eC17 eC16 ead16 eC15 eC14 ead14 eC13 eC12 ead12 eC11 eC10 ead10 eC9 eC8 ead8 eC7 eC6 eC5 ead5 eC4
    rfl
  have hq_185 : ad24 185 = q12 := by
    clear hA hO hF hG w hl hM hN hq_133 hg1 hq_150 hg2
    subst ead24 ead22 ead20 ead18 ead16 ead14 ead12 ead10 ead8 ead5
    rfl
  have hc_185 : C25 185 = aI cs 50 (fun _ => 0) := by
    clear hA hO hF hG w hl hM hN hq_185 hq_133 hg1 hq_150 hg2 hq_176 hc_176 hq_177 hc_177 hq_178 hc_178 hq_179 hc_179 hq_180 hc_180 hq_181 hc_181 hq_182 hc_182 hq_183 hc_183 hq_184 hc_184
    subst eC25 eC24 ead24 eC23 eC22 ead22 eC21 eC20 ead20 eC19 eC18 ead18 eC17 eC16 ead16 eC15 eC14 ead14 eC13 eC12 ead12 eC11 eC10 ead10 eC9 eC8 ead8 eC7 eC6 eC5 ead5 eC4
    rfl
  refine m_multi 25 26 (by decide) (by decide) X ev k_c_Mo_16 w (Nat.le_of_ble_eq_true rfl) (Nat.le_of_ble_eq_true rfl) d_Mo_init_128 (fun q13 adZ CZ H eadZ eCZ w => ?_)
  have w : Wd D cs A adZ 212 s CZ H _ := w
  have hA : adZ 132 = a := by rw [eadZ, mAd_o (by omega)]; exact hA
  have hO : CZ 132 = .inr (5, [.int (iI (0)), .int (iI (2)), .ref q1, .ref q2, .ref q3, .int (iI (0)), .ref q4, .ref q5, .ref q6, .ref q7, .ref q8, .ref q9, .ref q10, .ref q11, .ref q12, .null]) := by rw [eCZ, mC_o (by omega)]; exact hO
  have hF : ∀ i, i < 132 → CZ i = C i := fun i hi => (congrFun eCZ i).trans ((mC_o (by omega)).trans (hF i hi))
  have hG : ∀ i, i < 133 → adZ i = ad i := fun i hi => (congrFun eadZ i).trans ((mAd_o (by omega)).trans (hG i hi))
  have hq_186 : adZ 186 = q13 := by rw [eadZ]; unfold mAd; rw [if_neg (by omega)]; omega
  have hg3 : grV cs adZ CZ 186 187 25 26 := by rw [eadZ, eCZ]; exact m_grV
  have oA : ∀ j, j < 186 → adZ j = ad24 j := fun j hj => (congrFun eadZ j).trans (mAd_o hj)
  have oC : ∀ j, j < 186 → CZ j = C25 j := fun j hj => (congrFun eCZ j).trans (mC_o hj)
  have hq_133 : adZ 133 = q1 := (oA 133 (by omega)).trans hq_133
  have hg1 : grV cs adZ CZ 133 134 16 50 := grV_c hg1 (fun j _ hj => oA j (by omega)) (oC 133 (by omega)) (fun j _ hj => oC j (by omega))
  have hq_150 : adZ 150 = q2 := (oA 150 (by omega)).trans hq_150
  have hg2 : grV cs adZ CZ 150 151 25 50 := grV_c hg2 (fun j _ hj => oA j (by omega)) (oC 150 (by omega)) (fun j _ hj => oC j (by omega))
  have hq_176 : adZ 176 = q3 := (oA 176 (by omega)).trans hq_176
  have hc_176 : CZ 176 = aI cs 25 (fun _ => 0) := (oC 176 (by omega)).trans hc_176
  have hq_177 : adZ 177 = q4 := (oA 177 (by omega)).trans hq_177
  have hc_177 : CZ 177 = aI cs 50 (fun _ => 0) := (oC 177 (by omega)).trans hc_177
  have hq_178 : adZ 178 = q5 := (oA 178 (by omega)).trans hq_178
  have hc_178 : CZ 178 = aI cs 50 (fun _ => 0) := (oC 178 (by omega)).trans hc_178
  have hq_179 : adZ 179 = q6 := (oA 179 (by omega)).trans hq_179
  have hc_179 : CZ 179 = aI cs 50 (fun _ => 0) := (oC 179 (by omega)).trans hc_179
  have hq_180 : adZ 180 = q7 := (oA 180 (by omega)).trans hq_180
  have hc_180 : CZ 180 = aI cs 50 (fun _ => 0) := (oC 180 (by omega)).trans hc_180
  have hq_181 : adZ 181 = q8 := (oA 181 (by omega)).trans hq_181
  have hc_181 : CZ 181 = aI cs 50 (fun _ => 0) := (oC 181 (by omega)).trans hc_181
  have hq_182 : adZ 182 = q9 := (oA 182 (by omega)).trans hq_182
  have hc_182 : CZ 182 = aI cs 50 (fun _ => 0) := (oC 182 (by omega)).trans hc_182
  have hq_183 : adZ 183 = q10 := (oA 183 (by omega)).trans hq_183
  have hc_183 : CZ 183 = aI cs 50 (fun _ => 0) := (oC 183 (by omega)).trans hc_183
  have hq_184 : adZ 184 = q11 := (oA 184 (by omega)).trans hq_184
  have hc_184 : CZ 184 = aI cs 50 (fun _ => 0) := (oC 184 (by omega)).trans hc_184
  have hq_185 : adZ 185 = q12 := (oA 185 (by omega)).trans hq_185
  have hc_185 : CZ 185 = aI cs 50 (fun _ => 0) := (oC 185 (by omega)).trans hc_185
  obtain ⟨adM, eaM⟩ : ∃ z, z = adZ := ⟨_, rfl⟩
  obtain ⟨CM, eCM⟩ : ∃ z, z = CZ := ⟨_, rfl⟩
  rw [← eaM] at hA hG w hq_133 hg1 hq_150 hg2 hq_176 hq_177 hq_178 hq_179 hq_180 hq_181 hq_182 hq_183 hq_184 hq_185 hq_186 hg3
  rw [← eCM] at hO hF w hg1 hg2 hc_176 hc_177 hc_178 hc_179 hc_180 hc_181 hc_182 hc_183 hc_184 hc_185 hg3
  clear eaM eCM eadZ eCZ
  have hM : ∀ j, j < 212 → j ≠ 132 → CM j = CM j := fun _ _ _ => rfl
  have hN : ∀ j, j < 212 → adM j = adM j := fun _ _ => rfl
  refine m_putF (i := 132) (ci := 5) (fs := [.int (iI (0)), .int (iI (2)), .ref q1, .ref q2, .ref q3, .int (iI (0)), .ref q4, .ref q5, .ref q6, .ref q7, .ref q8, .ref q9, .ref q10, .ref q11, .ref q12, .null]) X hnm w hA (by decide) hO rfl k_l_Mo tMo tyMo nMo 15 (by decide) k_f_Mo_58 rfl rfl rfl rfl (Nat.le_of_ble_eq_true rfl) d_Mo_init_132 (fun C26 H locs eC26 w => ?_)
  have hO : C26 132 = .inr (5, [.int (iI (0)), .int (iI (2)), .ref q1, .ref q2, .ref q3, .int (iI (0)), .ref q4, .ref q5, .ref q6, .ref q7, .ref q8, .ref q9, .ref q10, .ref q11, .ref q12, .ref q13]) := by rw [eC26]; exact va_up_self _ _ _
  have hF : ∀ i, i < 132 → C26 i = C i := fun i hi => (congrFun eC26 i).trans ((va_up_ne _ _ (by omega)).trans (hF i hi))
  have hM : ∀ j, j < 212 → j ≠ 132 → C26 j = CM j := fun j hj hn => (congrFun eC26 j).trans ((va_up_ne _ _ (by omega)).trans (hM j hj hn))
  have hq_133 : adM 133 = q1 := (hN 133 (by omega)).trans hq_133
  have hg1 : grV cs adM C26 133 134 16 50 := grV_c hg1 (fun j _ hj => hN j (by omega)) (hM 133 (by omega) (by omega)) (fun j _ hj => hM j (by omega) (by omega))
  have hq_150 : adM 150 = q2 := (hN 150 (by omega)).trans hq_150
  have hg2 : grV cs adM C26 150 151 25 50 := grV_c hg2 (fun j _ hj => hN j (by omega)) (hM 150 (by omega) (by omega)) (fun j _ hj => hM j (by omega) (by omega))
  have hq_176 : adM 176 = q3 := (hN 176 (by omega)).trans hq_176
  have hc_176 : C26 176 = aI cs 25 (fun _ => 0) := (hM 176 (by omega) (by omega)).trans hc_176
  have hq_177 : adM 177 = q4 := (hN 177 (by omega)).trans hq_177
  have hc_177 : C26 177 = aI cs 50 (fun _ => 0) := (hM 177 (by omega) (by omega)).trans hc_177
  have hq_178 : adM 178 = q5 := (hN 178 (by omega)).trans hq_178
  have hc_178 : C26 178 = aI cs 50 (fun _ => 0) := (hM 178 (by omega) (by omega)).trans hc_178
  have hq_179 : adM 179 = q6 := (hN 179 (by omega)).trans hq_179
  have hc_179 : C26 179 = aI cs 50 (fun _ => 0) := (hM 179 (by omega) (by omega)).trans hc_179
  have hq_180 : adM 180 = q7 := (hN 180 (by omega)).trans hq_180
  have hc_180 : C26 180 = aI cs 50 (fun _ => 0) := (hM 180 (by omega) (by omega)).trans hc_180
  have hq_181 : adM 181 = q8 := (hN 181 (by omega)).trans hq_181
  have hc_181 : C26 181 = aI cs 50 (fun _ => 0) := (hM 181 (by omega) (by omega)).trans hc_181
  have hq_182 : adM 182 = q9 := (hN 182 (by omega)).trans hq_182
  have hc_182 : C26 182 = aI cs 50 (fun _ => 0) := (hM 182 (by omega) (by omega)).trans hc_182
  have hq_183 : adM 183 = q10 := (hN 183 (by omega)).trans hq_183
  have hc_183 : C26 183 = aI cs 50 (fun _ => 0) := (hM 183 (by omega) (by omega)).trans hc_183
  have hq_184 : adM 184 = q11 := (hN 184 (by omega)).trans hq_184
  have hc_184 : C26 184 = aI cs 50 (fun _ => 0) := (hM 184 (by omega) (by omega)).trans hc_184
  have hq_185 : adM 185 = q12 := (hN 185 (by omega)).trans hq_185
  have hc_185 : C26 185 = aI cs 50 (fun _ => 0) := (hM 185 (by omega) (by omega)).trans hc_185
  have hq_186 : adM 186 = q13 := (hN 186 (by omega)).trans hq_186
  have hg3 : grV cs adM C26 186 187 25 26 := grV_c hg3 (fun j _ hj => hN j (by omega)) (hM 186 (by omega) (by omega)) (fun j _ hj => hM j (by omega) (by omega))
  refine n_vret (post := moP cs ad C) (mc := 79) (ms := 3241) X hr hlk w ?_ d_Mo_init_135 (Nat.le_of_ble_eq_true rfl) (Nat.le_of_ble_eq_true rfl)
  refine ⟨rfl, hG, hF, ?_, hg1, hg2, hc_176, fun k hk => ?_, hg3⟩
  · rw [hO, hq_133, hq_150, hq_176, hq_177, hq_178, hq_179, hq_180, hq_181, hq_182, hq_183, hq_184, hq_185, hq_186]
  · have kk : k = 0 ∨ k = 1 ∨ k = 2 ∨ k = 3 ∨ k = 4 ∨ k = 5 ∨ k = 6 ∨ k = 7 ∨ k = 8 := by omega
    rcases kk with rfl | rfl | rfl | rfl | rfl | rfl | rfl | rfl | rfl
    · exact hc_177
    · exact hc_178
    · exact hc_179
    · exact hc_180
    · exact hc_181
    · exact hc_182
    · exact hc_183
    · exact hc_184
    · exact hc_185
