/-! THE CLAIM OUT OF ONE WALK OF THE LAW'S BODY. Your part is whole_start (and what it stands on); all else here is the same for every law, but numbers. -/
def R_law : String := "FieldFactorsLaw"
def lw_P (b : Addr) (xs : List Int32) (args : Array Value) (s : State) : Prop := args = #[.ref b] ∧ s.IntsAt b xs ∧ xs.length ≤ 2560 ∧ (Jvm.Cond.and given_1 narrow_1).before args s = true
def lw_Q (_ : Array Value) (s : State) (o : Outcome) (t : State) : Prop := o = .returned (some (.int 1)) ∧ Framed s o t [] 601024 7293034
def lw_Z (below : List Frame) (a : Array Value) (s : State) : State → Prop := fun t => ∃ o, t.status = .running ∧ Ended t below o ∧ lw_Q a s o t
/-- the law's own end, with 1 on the stack, nothing written that was there before, its room as the claim has it -/
theorem lw_ret {p : Program} {l : Launch} {e : Env} {s : State} {m : MethodId} {below : List Frame} {meth : Method} {c : Code} {b : Nat} (hx : p.tables.exec = Jvm.exec) (hb : c.code = code) (hr : meth.sig.returnType = ret) (hlocks : meth.locks = false) {pc : Nat} {H : Heap} {ls : Array Slot} (hdg : decode code pc = .ok (.ireturn, 1)) : W p l e room_1 s m #[Value.ref b] below meth c H [] 601024 7293034 (lw_Z below #[Value.ref b] s) (F0 m pc ls [.int 1]) := by
  intro T hT X
  obtain ⟨fs, hret, hrun, hended, hW, hframe⟩ := X.leave (v := some (.int 1)) (hlocks := hlocks) (fun h => by rw [hr] at h; cases h)
  have hmeth' : T.vm.method? m = some meth := X.method'
  refine ⟨T.setFrames fs, ?_, .returned (some (.int 1)), hrun, hended, rfl, ⟨_, rfl⟩, hW, hframe⟩
  jvm_step X.here [X.here.top, hx, hb, hdg, hmeth', hr, ret, narrow_b1]
  (try refine ⟨rfl, ?_⟩); (try refine ⟨rfl, ?_⟩)
  first | (intro acts; rw [hret _ acts rfl rfl rfl]) | rw [hret _ _ rfl rfl rfl]
  exact Steps.refl _
/-- what holds at the law's entry: the machine, the code, the tables' words (any of lw_tbl by 'hts w (by decide +kernel)'), the script of L ints xs at the cell b, what the Statement gives of the start (any of its parts by flat_of_before) -/
def lw_At (p : Program) (s : State) (m : MethodId) (meth : Method) (c : Code) (b L : Nat) (xs : Nat → Int32) : Prop :=
  p.tables.exec = Jvm.exec ∧ c.code = code ∧ meth.sig.returnType = ret ∧ c.maxLocals = 7 ∧ s.vm.findClass R_law = some m.cls ∧ (∀ w ∈ lw_tbl, w.before #[Value.ref b] s = true) ∧ va_X b L xs s s.heap ∧ b < s.heap.size ∧ meth.locks = false ∧ (Jvm.Cond.and given_1 narrow_1).before #[Value.ref b] s = true
theorem k_start {s : State} {args : Array Value} (hts : ∀ w ∈ lw_tbl, w.before args s = true) (ao : AOI s) : ∃ (D : va_G) (cs : Nat → ClassId), va_K D classes (tyL cs) s := by
  have htb : ∀ w ∈ TB, w.before args s = true := fun w hw => hts w (List.mem_filter.mp hw).1
  obtain ⟨c0, i0, h0⟩ := u_known (C := RPo) (T := FPo) (N := 2) (n := 2) htb k_l_Po (htb _ k_n_Po)
  obtain ⟨c1, i1, h1⟩ := u_known (C := RAr) (T := FAr) (N := 9) (n := 9) htb k_l_Ar (htb _ k_n_Ar)
  obtain ⟨c2, i2, h2⟩ := u_known (C := RCu) (T := FCu) (N := 13) (n := 13) htb k_l_Cu (htb _ k_n_Cu)
  obtain ⟨c3, i3, h3⟩ := u_known (C := ROs) (T := FOs) (N := 6) (n := 6) htb k_l_Os (htb _ k_n_Os)
  obtain ⟨c4, i4, h4⟩ := u_known (C := RFf) (T := FFf) (N := 6) (n := 6) htb k_l_Ff (htb _ k_n_Ff)
  obtain ⟨c5, i5, h5⟩ := u_known (C := RMo) (T := FMo) (N := 16) (n := 16) htb k_l_Mo (htb _ k_n_Mo)
  obtain ⟨a0, kA0, p0, n0, m0, q0⟩ := Cond.arrayClass_spec (htb _ k_ac_int)
  obtain ⟨a1, kA1, p1, n1, m1, q1⟩ := Cond.arrayClass_spec (htb _ k_ac_long)
  obtain ⟨p2, a2, kA2, g2, _, m2, q2, n2⟩ := Cond.arrayOver_spec (n := RPo) (hts (.arrayOver (.object RPo)) (by decide +kernel))
  obtain ⟨p3, a3, kA3, g3, _, m3, q3, n3⟩ := arrayOverA_spec ao
  refine ⟨(fun k => if k = 0 then c0 else if k = 1 then c1 else if k = 2 then c2 else if k = 3 then c3 else if k = 4 then c4 else c5, fun k => if k = 0 then i0 else if k = 1 then i1 else if k = 2 then i2 else if k = 3 then i3 else if k = 4 then i4 else i5), fun k => if k = 0 then a0 else if k = 1 then a1 else if k = 2 then a2 else a3, fun k q hq => ?_, fun k q hq => ?_⟩
  · match k, hq with
    | 0, hq => cases hq; exact h0
    | 1, hq => cases hq; exact h1
    | 2, hq => cases hq; exact h2
    | 3, hq => cases hq; exact h3
    | 4, hq => cases hq; exact h4
    | 5, hq => cases hq; exact h5
    | k + 6, hq => simp [classes] at hq
  · match k, hq with
    | 0, hq => cases hq; exact ⟨fun n z => ⟨fun k h => (by cases h), kA0, m0, p0, q0⟩, n0⟩
    | 1, hq => cases hq; exact ⟨fun n z => ⟨fun k h => (by cases h), kA1, m1, p1, q1⟩, n1⟩
    | 2, hq => cases hq; exact ⟨fun n z => ⟨fun k h => (by cases h), kA2, m2, p2, q2⟩, kA2, p2, m2, q2, g2, n2⟩
    | 3, hq => cases hq; exact ⟨fun n z => ⟨fun k h => (by cases h), kA3, m3, p3, q3⟩, n3⟩
    | k + 4, hq => simp [tyL] at hq
theorem ev_start {s : State} {b : Nat} (hts : ∀ w ∈ lw_tbl, w.before #[Value.ref b] s = true) (hgv : (Jvm.Cond.and given_1 narrow_1).before #[Value.ref b] s = true) : EV (fun q : Nat => s.heap.size ≤ q) s := by
  have hs := flat_of_before _ hgv
  have hA : ∀ a : Nat, a < s.heap.size → ¬ (fun q : Nat => s.heap.size ≤ q) a := fun a h => Nat.not_le.mpr h
  have one : ∀ (k : Nat) (tx : String), Cond.stringRef RFf k tx ∈ lw_tbl → (Cond.exactly (.string RFf k) "java/lang/String").before #[Value.ref b] s = true → ∃ sa, vk_R RFf k tx sa s := by
    intro k tx h1 h2
    obtain ⟨a, _, _, _, e, _⟩ := Cond.exactly_spec h2
    exact ⟨a, vk_R.of (hts _ h1) e⟩
  have sta : ∀ (n : String) (F : Nat → Int), (Cond.laysStatic RFf n "[I").before #[Value.ref b] s = true → (Cond.arrayOf (.static RFf n "[I") .int).before #[Value.ref b] s = true → (Cond.eq (.length (.static RFf n "[I")) (.int (Int32.ofNat 6))).before #[Value.ref b] s = true → (∀ j : Nat, j < 6 → (Cond.eq (.elem (.static RFf n "[I") (.int (Int32.ofNat j))) (.int (iI (F j)))).before #[Value.ref b] s = true) → stA n F (fun q : Nat => s.heap.size ≤ q) s := by
    intro n F h1 h2 h3 h4
    obtain ⟨t, e1, e2⟩ := va_Tof (N := 6) (f := fun j => .int (iI (F j))) (by decide) h2 (va_eqt h3) (fun j hj => va_eqt (h4 j hj)) hA
    exact ⟨t, va_Zof h1 (hts _ (by decide +kernel)) e1 hA, e2⟩
  refine ⟨fun w hw => va_Nw.of (face_ot (List.mem_filter.mp hw).2) (hts w (List.mem_filter.mp hw).1), vx_Zqof (hts _ (by decide +kernel)) (hts _ (by decide +kernel)) (hs _ (by decide +kernel)) hA, vx_Zqof (hts _ (by decide +kernel)) (hts _ (by decide +kernel)) (hs _ (by decide +kernel)) hA, fun q hq => ?_, hts (.arrayOver (.array .int)) (by decide +kernel), sta "FIELDS" fieldsF (hts _ (by decide +kernel)) (hs _ (by decide +kernel)) (hs _ (by decide +kernel)) (fun j hj => ?_), sta "CUT_DEGREES" cutF (hts _ (by decide +kernel)) (hs _ (by decide +kernel)) (hs _ (by decide +kernel)) (fun j hj => ?_), va_AO.of (hts _ (by decide +kernel)), va_Nw.of rfl (hts _ (by decide +kernel)), fun q hq => ?_⟩
  · simp only [strs, List.mem_cons, List.not_mem_nil, or_false] at hq
    rcases hq with rfl | rfl | rfl | rfl | rfl | rfl | rfl | rfl | rfl | rfl | rfl | rfl <;> exact one _ _ (by decide +kernel) (hs _ (by decide +kernel))
  · have kk : j = 0 ∨ j = 1 ∨ j = 2 ∨ j = 3 ∨ j = 4 ∨ j = 5 := by omega
    rcases kk with rfl | rfl | rfl | rfl | rfl | rfl <;> exact hs _ (by decide +kernel)
  · have kk : j = 0 ∨ j = 1 ∨ j = 2 ∨ j = 3 ∨ j = 4 ∨ j = 5 := by omega
    rcases kk with rfl | rfl | rfl | rfl | rfl | rfl <;> exact hs _ (by decide +kernel)
  · simp only [ncL, List.mem_cons, List.not_mem_nil, or_false] at hq
    rcases hq with rfl | rfl | rfl | rfl | rfl <;> exact va_Nc.of (hs _ (by decide +kernel))
theorem law_loop {p : Program} {l : Launch} {e : Env} {s : State} {m : MethodId} {below : List Frame} {meth : Method} {c : Code} {D : va_G} {cs : Nat → ClassId} {ad : Nat → Nat} {T b L : Nat} {xs : Nat → Int32} (hst : l.stackTraces = false) (hT : 213 ≤ T) (X : Cx p s m #[Value.ref b] c b_La_law RLa) (ev : EV (fun q : Nat => s.heap.size ≤ q) s) (hml : c.maxLocals = 7) (hr : meth.sig.returnType = ret) (hlocks : meth.locks = false) (hX : va_X b L xs s s.heap) (hbl : b < s.heap.size) (hL : L ≤ 2560) :
    ∀ (n j : Nat) (th : Int) (C : Nat → va_E) (H : Heap) (locs : List Loc) (ls : Array Slot), L ≤ 5 * (j + n) + 4 → 5 * j ≤ L → LIt cs ad th C → Wd D cs (fun q : Nat => s.heap.size ≤ q) ad T s C H locs → lv_has ls 7 [(4, .int (iI ((5 * j : Nat) : Int))), (0, .ref b), (1, .ref (ad 122)), (2, .ref (ad 132)), (3, .ref (ad 137))] → W p l e room_1 s m #[Value.ref b] below meth c H locs (213 + 5 * j) (6566 + 30 * j) (lw_Z below #[Value.ref b] s) (F0 m 23 ls []) := by
  intro n
  induction n with
  | zero =>
    intro j th C H locs ls h1 h2 hLI w hl
    refine lv_iload X.1 X.2.1 d_La_law_23 (lv_at hl 0 rfl) ?_
    refine lv_aload_n X.1 X.2.1 d_La_law_25 rfl (lv_at hl 1 rfl) ?_
    refine va_slen X.1 X.2.1 hX hbl (Nat.not_le.mpr hbl) w.2.2.2.2 d_La_law_26 ?_
    refine W.eq (g2 := F0 m 27 ls [.int (iI (L : Int)), .int (iI ((5 * j : Nat) : Int))]) (by rw [show Int32.ofNat L = iI (L : Int) from iI_nI L]) ?_
    refine lv_iconst (v := iI (5)) X.1 X.2.1 d_La_law_27 (by decide) ?_
    refine i_sub (a := (L : Int)) (b := 5) X d_La_law_28 ?_
    refine i_gt (a := ((5 * j : Nat) : Int)) (b := (L : Int) - 5) (tgt := 1042) X (by omega) (by omega) d_La_law_29 (by decide) (fun h_29 => ?_) (fun h_29 => ?_)
    · refine lv_iconst (v := 1) X.1 X.2.1 d_La_law_1042 (by decide) ?_
      refine va_forget (fun q hq => w.2.2.2.2.2.2 q hq) ?_
      refine W.widen (k := 601024) (n := 7293034) (by omega) (by omega) ?_
      exact lw_ret X.1 X.2.1 hr hlocks d_La_law_1043
    · exact absurd h_29 (by omega)
  | succ n ih =>
    intro j th C H locs ls h1 h2 hLI w hl
    refine lv_iload X.1 X.2.1 d_La_law_23 (lv_at hl 0 rfl) ?_
    refine lv_aload_n X.1 X.2.1 d_La_law_25 rfl (lv_at hl 1 rfl) ?_
    refine va_slen X.1 X.2.1 hX hbl (Nat.not_le.mpr hbl) w.2.2.2.2 d_La_law_26 ?_
    refine W.eq (g2 := F0 m 27 ls [.int (iI (L : Int)), .int (iI ((5 * j : Nat) : Int))]) (by rw [show Int32.ofNat L = iI (L : Int) from iI_nI L]) ?_
    refine lv_iconst (v := iI (5)) X.1 X.2.1 d_La_law_27 (by decide) ?_
    refine i_sub (a := (L : Int)) (b := 5) X d_La_law_28 ?_
    refine i_gt (a := ((5 * j : Nat) : Int)) (b := (L : Int) - 5) (tgt := 1042) X (by omega) (by omega) d_La_law_29 (by decide) (fun h_29 => ?_) (fun h_29 => ?_)
    · refine lv_iconst (v := 1) X.1 X.2.1 d_La_law_1042 (by decide) ?_
      refine va_forget (fun q hq => w.2.2.2.2.2.2 q hq) ?_
      refine W.widen (k := 601024) (n := 7293034) (by omega) (by omega) ?_
      exact lw_ret X.1 X.2.1 hr hlocks d_La_law_1043
    · have hj : 5 * j + 5 ≤ L := by omega
      have K : ∀ (th : Int) (C : Nat → va_E) (H : Heap) (locs : List Loc) (ls : Array Slot), LIt cs ad th C → Wd D cs (fun q : Nat => s.heap.size ≤ q) ad T s C H locs → lv_has ls 7 [(4, .int (iI ((5 * j : Nat) : Int))), (0, .ref b), (1, .ref (ad 122)), (2, .ref (ad 132)), (3, .ref (ad 137))] → W p l e room_1 s m #[Value.ref b] below meth c H locs (213 + 5 * j + 5) (6566 + 30 * j + 30) (lw_Z below #[Value.ref b] s) (F0 m 1036 ls []) := by
        intro th C H locs ls hLI w hl
        refine i_inc (k := 0) (x := ((5 * j : Nat) : Int)) (lv' := [(4, .int (iI (((5 * j : Nat) : Int) + 5))), (0, .ref b), (1, .ref (ad 122)), (2, .ref (ad 132)), (3, .ref (ad 137))]) X d_La_law_1036 hl rfl (by decide) rfl (fun ls hl => ?_)
        refine lv_goto (tgt := 23) X.1 X.2.1 d_La_law_1039 (by decide) ?_
        rw [show ((5 * j : Nat) : Int) + 5 = ((5 * (j + 1) : Nat) : Int) by omega] at hl
        rw [show 213 + 5 * j + 5 = 213 + 5 * (j + 1) by omega, show 6566 + 30 * j + 30 = 6566 + 30 * (j + 1) by omega]
        exact ih (j + 1) th C H locs ls (by omega) (by omega) hLI w hl
      refine lv_aload_n X.1 X.2.1 d_La_law_32 rfl (lv_at hl 1 rfl) ?_
      refine lv_iload X.1 X.2.1 d_La_law_33 (lv_at hl 0 rfl) ?_
      refine l_sc X hX hbl hL w (5 * j) rfl (by omega) d_La_law_35 ?_
      refine lv_bipush (v := iI (15)) X.1 X.2.1 d_La_law_36 (by decide) ?_
      refine lv_iand X.1 X.2.1 d_La_law_38 ?_
      generalize iI (xs (5 * j)).toInt &&& iI 15 = v
      by_cases hsw : v.toInt < 0 ∨ 13 < v.toInt
      · refine lv_tableOut (tgt := 1036) X.1 X.2.1 d_La_law_39 hsw (by decide) ?_
        exact W.widen (k := 213 + 5 * j + 5) (n := 6566 + 30 * j + 30) (by omega) (by omega) (K th C H locs ls hLI w hl)
      · have hsw2 : v.toInt = 0 ∨ v.toInt = 1 ∨ v.toInt = 2 ∨ v.toInt = 3 ∨ v.toInt = 4 ∨ v.toInt = 5 ∨ v.toInt = 6 ∨ v.toInt = 7 ∨ v.toInt = 8 ∨ v.toInt = 9 ∨ v.toInt = 10 ∨ v.toInt = 11 ∨ v.toInt = 12 ∨ v.toInt = 13 := by omega
        rcases hsw2 with hv | hv | hv | hv | hv | hv | hv | hv | hv | hv | hv | hv | hv | hv
        · refine lv_tableIn (tgt := 108) X.1 X.2.1 d_La_law_39 (by omega) (by omega) (by rw [hv]; rfl) (by decide) ?_
          exact k_La_field hst hT X ev hml hX hbl hL hj (by omega) (by omega) K hLI w hl
        · refine lv_tableIn (tgt := 164) X.1 X.2.1 d_La_law_39 (by omega) (by omega) (by rw [hv]; rfl) (by decide) ?_
          exact k_La_set hst hT X ev hml hX hbl hL hj (by omega) (by omega) K hLI w hl
        · refine lv_tableIn (tgt := 244) X.1 X.2.1 d_La_law_39 (by omega) (by omega) (by rw [hv]; rfl) (by decide) ?_
          exact k_La_get hst hT X ev hml hX hbl hL hj (by omega) (by omega) K hLI w hl
        · refine lv_tableIn (tgt := 312) X.1 X.2.1 d_La_law_39 (by omega) (by omega) (by rw [hv]; rfl) (by decide) ?_
          exact k_La_join hst hT X ev hml hX hbl hL hj (by omega) (by omega) K hLI w hl
        · refine lv_tableIn (tgt := 404) X.1 X.2.1 d_La_law_39 (by omega) (by omega) (by rw [hv]; rfl) (by decide) ?_
          exact k_La_power hst hT X ev hml hX hbl hL hj (by omega) (by omega) K hLI w hl
        · refine lv_tableIn (tgt := 496) X.1 X.2.1 d_La_law_39 (by omega) (by omega) (by rw [hv]; rfl) (by decide) ?_
          exact k_La_inverse hst hT X ev hml hX hbl hL hj (by omega) (by omega) K hLI w hl
        · refine lv_tableIn (tgt := 576) X.1 X.2.1 d_La_law_39 (by omega) (by omega) (by rw [hv]; rfl) (by decide) ?_
          exact k_La_value hst hT X ev hml hX hbl hL hj (by omega) (by omega) K hLI w hl
        · refine lv_tableIn (tgt := 644) X.1 X.2.1 d_La_law_39 (by omega) (by omega) (by rw [hv]; rfl) (by decide) ?_
          exact k_La_zeros hst hT X ev hml hX hbl hL hj (by omega) (by omega) K hLI w hl
        · refine lv_tableIn (tgt := 700) X.1 X.2.1 d_La_law_39 (by omega) (by omega) (by rw [hv]; rfl) (by decide) ?_
          exact k_La_factor hst hT X ev hml hX hbl hL hj (by omega) (by omega) K hLI w hl
        · refine lv_tableIn (tgt := 756) X.1 X.2.1 d_La_law_39 (by omega) (by omega) (by rw [hv]; rfl) (by decide) ?_
          exact k_La_piece hst hT X ev hml hX hbl hL hj (by omega) (by omega) K hLI w hl
        · refine lv_tableIn (tgt := 824) X.1 X.2.1 d_La_law_39 (by omega) (by omega) (by rw [hv]; rfl) (by decide) ?_
          exact k_La_irreducible hst hT X ev hml hX hbl hL hj (by omega) (by omega) K hLI w hl
        · refine lv_tableIn (tgt := 887) X.1 X.2.1 d_La_law_39 (by omega) (by omega) (by rw [hv]; rfl) (by decide) ?_
          exact k_La_order hst hT X ev hml hX hbl hL hj (by omega) (by omega) K hLI w hl
        · refine lv_tableIn (tgt := 943) X.1 X.2.1 d_La_law_39 (by omega) (by omega) (by rw [hv]; rfl) (by decide) ?_
          exact k_La_linear hst hT X ev hml hX hbl hL hj (by omega) (by omega) K hLI w hl
        · refine lv_tableIn (tgt := 1011) X.1 X.2.1 d_La_law_39 (by omega) (by omega) (by rw [hv]; rfl) (by decide) ?_
          exact k_La_count hst hT X ev hml hX hbl hL hj (by omega) (by omega) K hLI w hl
theorem whole_start {p : Program} {e : Env} {s : State} {m : MethodId} {below : List Frame} {meth : Method} {c : Code} (l : Launch) (hst : l.stackTraces = false) {b L : Nat} {xs : Nat → Int32} (hL : L ≤ 2560) (C0 : lw_At p s m meth c b L xs) : W p l e room_1 s m #[Value.ref b] below meth c s.heap [] 0 0 (lw_Z below #[Value.ref b] s) (entryFrame m ([Value.ref b] : List Value).toArray 7) := by
  obtain ⟨hx, hb, hr, hml, hown, hts, hX, hbl, hlocks, hgv⟩ := id C0
  have ev := ev_start hts hgv
  obtain ⟨D, cs, hK⟩ := k_start hts ev.2.2.2.2.1
  have X : Cx p s m #[Value.ref b] c b_La_law RLa := ⟨hx, hb, hown, fun w hw => hts w (List.mem_filter.mp hw).1⟩
  have w : Wd D cs (fun q : Nat => s.heap.size ≤ q) (fun _ => 0) 0 s (fun _ => .inr (0, [])) s.heap [] := ⟨hK, ⟨fun i j hi _ _ => absurd hi (Nat.not_lt_zero i), fun i hi => absurd hi (Nat.not_lt_zero i)⟩, fun q h => h, fun k q h => absurd h (by simp [vW]), va_S.rf⟩
  have hl := lv_entry ([.ref b]) (n := 7) (Nat.le_of_ble_eq_true rfl)
  rw [lg_entry_eq]
  generalize (lg_sl ([.ref b]) ++ List.replicate (7 - (lg_sl ([.ref b])).length) Slot.unset).toArray = ls at hl ⊢
  have hl : lv_has ls 7 [(0, .ref b)] := hl
  refine m_new (Cn := RFf) (Tn := FFf) (N := 6) (ci := 4) (fs := [.null, .null, .null, .null, .null, .null]) X w k_l_Ff tFf tyFf k_c_La_8 k_n_Ff k_i_Ff rfl (by decide) (Nat.le_of_ble_eq_true rfl) (Nat.le_of_ble_eq_true rfl) d_La_law_0 (fun q0 ad1 C1 H ea1 eC1 w => ?_)
  have w : Wd D cs (fun q : Nat => s.heap.size ≤ q) ad1 1 s C1 H _ := w
  refine lv_dup X.1 X.2.1 d_La_law_3 rfl ?_
  refine n_cI (n := 0) (b := q0) (As := []) (rest := [.ref q0]) X ev w hml hl.1 (c_Ff_init (by rw [ea1, va_up_self]) (by rw [eC1, va_up_self])) k_m_La_61 k_im_Ff_init k_i_Ff k_co_Ff_init rfl (by decide +kernel) rfl ⟨(Nat.le_of_ble_eq_true rfl), (Nat.le_of_ble_eq_true rfl)⟩ ⟨rfl, rfl⟩ ⟨(Nat.le_of_ble_eq_true rfl), (Nat.le_of_ble_eq_true rfl)⟩ rfl (Nat.le_of_ble_eq_true rfl) d_La_law_4 (fun ad2 T2 C2 H locs hp w => ?_)
  obtain ⟨rfl, hq0, hQ⟩ := hp
  have hQ : ffQ cs ad2 C2 := hQ
  have hq0 : ad2 0 = q0 := hq0.trans (by rw [ea1, va_up_self])
  refine lv_astore_n (lv' := [(1, .ref q0), (0, .ref b)]) X.1 X.2.1 d_La_law_7 rfl hl (by decide) rfl (fun ls hl => ?_)
  refine m_new (Cn := RMo) (Tn := FMo) (N := 16) (ci := 5) (fs := [.int 0, .int 0, .null, .null, .null, .int 0, .null, .null, .null, .null, .null, .null, .null, .null, .null, .null]) X w k_l_Mo tMo tyMo k_c_La_62 k_n_Mo k_i_Mo rfl (by decide) (Nat.le_of_ble_eq_true rfl) (Nat.le_of_ble_eq_true rfl) d_La_law_8 (fun q1 ad3 C3 H ea3 eC3 w => ?_)
  have w : Wd D cs (fun q : Nat => s.heap.size ≤ q) ad3 133 s C3 H _ := w
  have hQ : ffQ cs ad3 C3 := ffQ_c hQ (fun j hj => (congrFun ea3 j).trans (va_up_ne _ _ (by omega))) (fun j hj => (congrFun eC3 j).trans (va_up_ne _ _ (by omega)))
  have hq0 : ad3 0 = q0 := by rw [ea3, va_up_ne _ _ (by omega)]; exact hq0
  have hq1 : ad3 132 = q1 := by rw [ea3, va_up_self]
  refine lv_dup X.1 X.2.1 d_La_law_11 rfl ?_
  refine n_cI (n := 0) (b := q1) (As := []) (rest := [.ref q1]) X ev w hml hl.1 (c_Mo_init hq1 (by rw [eC3, va_up_self])) k_m_La_64 k_im_Mo_init k_i_Mo k_co_Mo_init rfl (by decide +kernel) rfl ⟨(Nat.le_of_ble_eq_true rfl), (Nat.le_of_ble_eq_true rfl)⟩ ⟨rfl, rfl⟩ ⟨(Nat.le_of_ble_eq_true rfl), (Nat.le_of_ble_eq_true rfl)⟩ rfl (Nat.le_of_ble_eq_true rfl) d_La_law_12 (fun ad4 T4 C4 H locs hp w => ?_)
  obtain ⟨rfl, hg4, hf4, hM⟩ := hp
  have hQ : ffQ cs ad4 C4 := ffQ_c hQ (fun j hj => hg4 j (by omega)) (fun j hj => hf4 j (by omega))
  have hq0 : ad4 0 = q0 := (hg4 0 (by omega)).trans hq0
  have hq1 : ad4 132 = q1 := (hg4 132 (by omega)).trans hq1
  refine lv_astore_n (lv' := [(2, .ref q1), (1, .ref q0), (0, .ref b)]) X.1 X.2.1 d_La_law_15 rfl hl (by decide) rfl (fun ls hl => ?_)
  refine lv_iconst (v := iI (1)) X.1 X.2.1 d_La_law_16 (by decide) ?_
  refine m_newl 1 rfl (by decide) X w (Nat.le_of_ble_eq_true rfl) (Nat.le_of_ble_eq_true rfl) d_La_law_17 (fun q2 ad5 C5 H ea5 eC5 w => ?_)
  have w : Wd D cs (fun q : Nat => s.heap.size ≤ q) ad5 213 s C5 H _ := w
  have hQ : ffQ cs ad5 C5 := ffQ_c hQ (fun j hj => (congrFun ea5 j).trans (va_up_ne _ _ (by omega))) (fun j hj => (congrFun eC5 j).trans (va_up_ne _ _ (by omega)))
  have hM : moQ cs ad5 C5 := moQ_c hM (fun j hj => (congrFun ea5 j).trans (va_up_ne _ _ (by omega))) (fun j _ hj => (congrFun eC5 j).trans (va_up_ne _ _ (by omega)))
  have hq0 : ad5 0 = q0 := by rw [ea5, va_up_ne _ _ (by omega)]; exact hq0
  have hq1 : ad5 132 = q1 := by rw [ea5, va_up_ne _ _ (by omega)]; exact hq1
  have hq2 : ad5 212 = q2 := by rw [ea5, va_up_self]
  have h212 : C5 212 = aL cs 1 (fun _ => 0) := by rw [eC5, va_up_self]
  refine lv_astore_n (lv' := [(3, .ref q2), (2, .ref q1), (1, .ref q0), (0, .ref b)]) X.1 X.2.1 d_La_law_19 rfl hl (by decide) rfl (fun ls hl => ?_)
  refine lv_iconst (v := iI (0)) X.1 X.2.1 d_La_law_20 (by decide) ?_
  refine lv_istore (lv' := [(4, .int (iI (0))), (3, .ref q2), (2, .ref q1), (1, .ref q0), (0, .ref b)]) X.1 X.2.1 d_La_law_21 hl (by decide) rfl (fun ls hl => ?_)
  obtain ⟨inv, hI, hat⟩ := CS_at hQ hM h212
  have w := w.re piS piS_lt piS_in (ad' := fun i => ad5 (piS i)) (fun i _ => rfl) hat
  have e0 : ad5 (piS 122) = q0 := hq0
  have e1 : ad5 (piS 132) = q1 := hq1
  have e2 : ad5 (piS 137) = q2 := hq2
  refine law_loop (ad := fun i => ad5 (piS i)) hst (Nat.le_refl 213) X ev hml hr hlocks hX hbl hL (L + 1) 0 0 _ H _ ls (by omega) (by omega) (CS_LI hI) w ?_
  rw [e0, e1, e2]
  exact lv_sub hl [0, 4, 3, 2, 1] rfl
set_option maxHeartbeats 4000000 in
theorem lw_walk (l : Launch) (hst : l.stackTraces = false) (b : Addr) (xs : List Int32) : MetFree l x (headSpec (Jvm.Cond.code x code maxLocals ret :: tables_1) room_1) (lw_P b xs) (fun _ _ _ _ _ => True) lw_Q := by
  refine MetFree.of_bodyS (code := code) (maxLocals := maxLocals) (ret := ret) (by decide) ?_ ?_
  · intro args s m h hn
    obtain ⟨meth, c, h1, h2, h3, h4, h5, h6, -, -⟩ := Cond.code_spec hn (atoms_spec (ws := Jvm.Cond.code x code maxLocals ret :: tables_1) h _ List.mem_cons_self)
    exact ⟨meth, c, h1, h2, h3, h4, h5, h6⟩
  · intro p e s m args below meth c s₁ B hml0 hP _
    obtain ⟨rfl, hx, hbd, hgv⟩ := hP
    obtain ⟨scr, harrAt, hlist, hof, hsmall⟩ := hx
    obtain ⟨hcb, hkn, -, -⟩ := State.arrayAt?_spec harrAt
    have hown : s.vm.findClass R_law = some m.cls := findClass_of_methodNamed B.named
    have hts0 : ∀ c ∈ (Jvm.Cond.code x code maxLocals ret :: tables_1), c.before #[Value.ref b] s = true := atoms_spec (ws := Jvm.Cond.code x code maxLocals ret :: tables_1) B.pre
    have hts : ∀ w ∈ lw_tbl, w.before #[Value.ref b] s = true := k2_hts_sels lw_privs (fun w hw => hts0 w (List.mem_cons_of_mem _ hw)) lw_privs_ok
    have hml : c.maxLocals = 7 := B.maxLocals_eq (hts0 _ List.mem_cons_self)
    have X₀ : Stand p l e room_1 s m #[Value.ref b] below meth c s₁ [] 0 0 := Stand.of_body B
    have hh0 : s₁.heap = s.heap := by rw [B.state]; rfl
    have hsz : scr.slots.size = xs.length := by rw [← Array.length_toList, hlist, List.length_map]
    have hval : ∀ j : Nat, j < xs.length → scr.slots[j]? = some (.int (xs.getD j 0)) := fun j hj => by
      rw [← Array.getElem?_toList, hlist]
      simp [hj]
    have hbl : b < s.heap.size := (Array.getElem?_eq_some_iff.mp hcb).1
    have hX : va_X b xs.length (fun j => xs.getD j 0) s s.heap := ⟨scr, hcb, hof, hkn, hsz, hval⟩
    have K : W p l e room_1 s m #[Value.ref b] below meth c s₁.heap [] 0 0 (lw_Z below #[Value.ref b] s) (entryFrame m ([Value.ref b] : List Value).toArray 7) := by
      rw [hh0]
      exact whole_start l hst hbd ⟨B.exec, B.bytes, B.returns, hml, hown, hts, hX, hbl, B.notSynchronized, hgv⟩
    obtain ⟨t, a1, o, b1, b2, b3⟩ := K s₁ rfl X₀
    exact ⟨t, o, a1, b1, b2, b3⟩
theorem lw_pre_spec {args : Array Value} {s : State} (h : (Jvm.Cond.and given_1 narrow_1).before args s = true) (hr : rest_1_c.before args s = true) : ∃ (b : Addr) (xs : List Int32), lw_P b xs args s := by
  have hs := flat_of_before _ h
  have hq := flat_of_before _ hr
  have hc : (Cond.count 1).before args s = true := hs _ (by decide +kernel)
  have harr : (Cond.arrayOf (.arg 0) .int).before args s = true := hs _ (by decide +kernel)
  have hle : (Cond.le (.length (.arg 0)) (.int 2560)).before args s = true := hs _ (by decide +kernel)
  have hlen : (Cond.isInt (.length (.arg 0))).before args s = true := hq _ (by decide +kernel)
  have hall : (Cond.all (.arg 0) (.isInt (.elem (.arg 0) (.index 0)))).before args s = true := hq _ (by decide +kernel)
  obtain ⟨b, xs, hb, hx⟩ := State.ints_of_pre rfl harr hlen hall
  have hsm : xs.length < 2 ^ 31 := hx.choose_spec.2.2.2
  have hev : (Term.length (.arg 0)).eval args s none [] s = some (.int xs.length.toInt32) := hx.length_eval hb
  have hv := Cond.le_ints hev (show (Term.int 2560).eval args s none [] s = some (.int 2560) from rfl)
  have hd : xs.length.toInt32 ≤ 2560 := by
    simpa [Cond.before, Cond.holds, hv] using hle
  have hN : xs.length ≤ 2560 := (Int32.ofNat_le_ofNat hsm (by decide)).mp (show Int32.ofNat xs.length ≤ Int32.ofNat 2560 from hd)
  exact ⟨b, xs, Cond.one_arg hc (show args[0]? = some (.ref b) from hb), hx, hN, h⟩
theorem lw_comes (l : Launch) (hst : l.stackTraces = false) : Comes l x (Jvm.Cond.code x code maxLocals ret :: tables_1) room_1 (fun tb e args s => Calls_1 tb e args s ∧ rest_1 tb e args s ∧ Pre_1 tb e args s)
    (fun _ _ args s o t => lw_Q args s o t) := by
  intro p e ha hc hk s m args below hf hfit hheap happ hpre
  obtain ⟨b, xs, hP⟩ := lw_pre_spec hpre.2.2 hpre.2.1
  obtain ⟨k, o, h1, h2, h3, hQ⟩ := lw_walk l hst b xs p e ha hc hk s m args below hf ((Spec.applies_iff_loose hf).mp happ).1 hP trivial
  exact ⟨k, o, h1, h2, h3, hQ⟩
theorem lw_frame {s t : State} {o : Outcome} {args : Array Value} (h : Framed s o t [] 601024 7293034) :
    Framed s o t (fieldLocs frame_1_writes args s ++ arrayLocs frame_1_arrays args s ++ staticLocs frame_1_statics s) 601024 7293034 := h
theorem lw_limb (L : Cond) (hL : ∀ (args : Array Value) (s t : State), L.after args s (.returned (some (.int 1))) t = true) :
    ArmFor flags0 classFile x code maxLocals ret World_1 tables_1 room_1 Calls_1 rest_1 Pre_1
      (fun tb e a s o t => postC L tb e a s o t ∧ Framed s o t (fieldLocs frame_1_writes a s ++ arrayLocs frame_1_arrays a s ++ staticLocs frame_1_statics s) 601024 7293034) := by
  intro l hfl _ _ p e ha hc hk s m args below hf hfit hheap happ hpre
  obtain ⟨k, o, h1, h2, h3, rfl, hF⟩ := lw_comes l (by unfold Launch.stackTraces; rw [hfl]; decide +kernel) p e ha hc hk s m args below hf hfit hheap happ hpre
  exact ⟨k, _, h1, h2, h3, hL args s _, lw_frame hF⟩
theorem i_vc : Claimed_1_1 ∧ Claimed_1_2 := ⟨lw_limb limb_1_1 (fun args s t => by simp [limb_1_1, Cond.after, Cond.holds, Cond.value]), lw_limb limb_1_2 (fun args s t => Cond.after_iff.mpr (by
  first | (rw [show limb_1_2 = Cond.eq .result (.int 1) from rfl, Cond.eq_ints (x := 1) (y := 1) rfl rfl]; simp; done) | (simp [limb_1_2, Cond.value, Term.eval]; done)))⟩
