section DI
variable {p : Program} {l : Launch} {e : Env} {R : Room} {s : State} {m : MethodId} {args : Array Value} {below : List Frame} {meth : Method} {c : Code} {H : Heap} {locs : List Loc} {cells slots : Nat} {Q : State → Prop} {D : va_G} {cs : Nat → ClassId} {A : Nat → Prop} {ad : Nat → Nat} {T : Nat}
variable {cc : ByteArray} {own : String} {pc : Nat} {ls : Array Slot} {rest : List Value}
theorem i_div (X : Cx p s m args c cc own) {a b : Int} (ha : 0 ≤ a ∧ a < 2147483648) (hb : 0 < b ∧ b < 2147483648) (hdg : decode cc pc = .ok (.idiv, 1)) (kk : W p l e R s m args below meth c H locs cells slots Q (F0 m (pc + 1) ls (.int (iI (a / b)) :: rest))) : W p l e R s m args below meth c H locs cells slots Q (F0 m pc ls (.int (iI b) :: .int (iI a) :: rest)) :=
  lv_idiv X.1 X.2.1 hdg (fun h => by rw [iI_0, iI_eq ⟨by omega, by omega⟩ ⟨by omega, by omega⟩] at h; omega) (by rw [iI_div ha.1 ha.2 hb.1 hb.2]; exact kk)
end DI
/-! the degree of the quotient -/
theorem divL_q {pr iv : Int} {B : Nat → Int} {e : Nat} : ∀ (n : Nat) (u : P2) (x : Nat), n ≤ x → (divL pr iv B e n u).2 x = u.2 x
  | 0, _, _, _ => rfl
  | n + 1, u, x, hx => by
    show (divL pr iv B e n (divS pr iv B e u n)).2 x = u.2 x
    rw [divL_q n _ x (by omega)]
    unfold divS
    split
    · rfl
    · exact va_up_ne _ _ (by omega)
theorem dvm_qdg {cs : Nat → ClassId} {ad : Nat → Nat} {pr : Int} {inv : Nat → Int} {O : Nat → va_E} (hO : arO cs ad pr inv O) {A B : Nat → Int} {N K : Nat} (hA : okp pr N A) (hB : okp pr K B) (hN : N ≤ 300) (hK : K ≤ 300) (hd : 0 ≤ dg 300 B) (hAB : dg 300 B ≤ dg 300 A) : dg 300 (dvm pr inv A B).2 = dg 300 A - dg 300 B := by
  have hpr := hO.2.2.1
  have hla := dg_lt 300 A
  have hq := dvm_ok (inv := inv) (M := (dg 300 A - dg 300 B + 1).toNat) (by omega) hA hB hN hK hpr.2 (by omega)
  refine dg_eq (by omega) (by omega) (fun x hx => ?_) (fun x hx _ => hq.2.2 x (by omega))
  have hB1 := hB.lead hd
  have hA1 := hA.lead (by omega)
  have hiv := hO.inv hB1
  unfold dvm
  rw [if_neg (by omega), show (dg 300 A - dg 300 B + 1).toNat = x + 1 by omega]
  show (divL pr _ B _ x (divS pr _ B _ (A, fun _ => 0) x)).2 x ≠ 0
  rw [divL_q x _ x (Nat.le_refl _)]
  have hne : A (x + (dg 300 B).toNat) * inv (B (dg 300 B).toNat).toNat % pr ≠ 0 := by
    rw [show x + (dg 300 B).toNat = (dg 300 A).toNat by omega]
    exact inv_ne hA1 hiv.2
  unfold divS
  rw [if_neg hne]
  show va_up _ x _ x ≠ 0
  rw [va_up_self]
  exact hne
/-- from f on the factors have a degree above 0 -/
def posK (f : Nat) (K : KS) : Prop := ∀ i, f ≤ i → i < K.1 → 0 < dg 300 (K.2.1 i)
def okK (pr : Int) (K : KS) : Prop := ∀ i, i < K.1 → okp pr 25 (K.2.1 i)
theorem appK_pos {f : Nat} {K : KS} {F : Nat → Int} {v : Int} (h : posK f K) (hF : 0 < dg 300 F) : posK f (appK K F v) := by
  unfold appK
  split
  · intro i h1 h2
    show 0 < dg 300 (va_up K.2.1 K.1 F i)
    have h2 : i < K.1 + 1 := h2
    by_cases e : i = K.1
    · rw [e, va_up_self]; exact hF
    · rw [va_up_ne _ _ e]; exact h i h1 (by omega)
  · exact h
theorem appK_okK {pr : Int} {K : KS} {F : Nat → Int} {v : Int} (h : okK pr K) (hF : okp pr 25 F) : okK pr (appK K F v) := by
  unfold appK
  split
  · intro i h2
    show okp pr 25 (va_up K.2.1 K.1 F i)
    have h2 : i < K.1 + 1 := h2
    by_cases e : i = K.1
    · rw [e, va_up_self]; exact hF
    · rw [va_up_ne _ _ e]; exact h i (by omega)
  · exact h
theorem gcdL_ok {cs : Nat → ClassId} {ad : Nat → Nat} {pr : Int} {inv : Nat → Int} {O : Nat → va_E} (hO : arO cs ad pr inv O) : ∀ (n : Nat) (U L : Nat → Int), okp pr 25 U → okp pr 25 L → okp pr 25 (gcdL pr inv n U L)
  | 0, U, L, hU, _ => hU
  | n + 1, U, L, hU, hL => by
    have hpr := hO.2.2.1
    have hdl := (hL.ok hpr.2).dlt 300
    unfold gcdL
    split
    · exact hU
    · exact gcdL_ok hO n L _ hL (dvm_ok25 hO hU hL (by omega) (by omega) (by omega) (by omega))
theorem gcdP_ok {cs : Nat → ClassId} {ad : Nat → Nat} {pr : Int} {inv : Nat → Int} {O : Nat → va_E} (hO : arO cs ad pr inv O) {U L : Nat → Int} (hU : okp pr 25 U) (hL : okp pr 25 L) : okp pr 25 (gcdP pr inv U L) := mon_ok (by have := hO.2.2.1; omega) (gcdL_ok hO _ _ _ hU hL)
theorem sbS_pos {cs : Nat → ClassId} {ad : Nat → Nat} {pr : Int} {inv : Nat → Int} {O : Nat → va_E} (hO : arO cs ad pr inv O) {Tr On : Nat → Int} (hT : okp pr 25 Tr) (hOn : okp pr 25 On) {f k v : Nat} {K : KS} (hk : k < K.1) (h : posK f K) (h2 : okK pr K) : posK f (sbS pr inv Tr On k v K) ∧ okK pr (sbS pr inv Tr On k v K) := by
  have hpr := hO.2.2.1
  have hS : okp pr 25 (addS pr Tr (pr - v) 0 On) := addS_ok (by omega) hT (fun x hx => hOn.2 x (by omega))
  have hC := gcdP_ok hO (h2 k hk) hS
  unfold sbS
  split
  · next hc =>
    have hdk := ((h2 k hk).ok hpr.2).dlt 300
    have hq := dvm_qdg hO (h2 k hk) hC (by omega) (by omega) (Int.le_of_lt hc.1) (Int.le_of_lt hc.2)
    have hq2 := dvm_ok (inv := inv) (M := 25) (by omega) (h2 k hk) hC (by omega) (by omega) hpr.2 (by have := hc.1; unfold sbC at this; omega)
    refine ⟨appK_pos (fun i h3 h4 => ?_) hc.1, appK_okK (fun i h4 => ?_) hC⟩
    · show 0 < dg 300 (va_up K.2.1 k _ i)
      by_cases e : i = k
      · rw [e, va_up_self]
        have := hc.2
        unfold sbC at this ⊢
        omega
      · rw [va_up_ne _ _ e]; exact h i h3 h4
    · show okp pr 25 (va_up K.2.1 k _ i)
      by_cases e : i = k
      · rw [e, va_up_self]; exact hq2.2
      · rw [va_up_ne _ _ e]; exact h2 i h4
  · exact ⟨h, h2⟩
theorem sbV_pos {cs : Nat → ClassId} {ad : Nat → Nat} {pr : Int} {inv : Nat → Int} {O : Nat → va_E} (hO : arO cs ad pr inv O) {Tr On : Nat → Int} (hT : okp pr 25 Tr) (hOn : okp pr 25 On) {f g k : Nat} : ∀ (n v : Nat) (K : KS), k < K.1 → posK f K → okK pr K → posK f (sbV pr inv Tr On g k v n K) ∧ okK pr (sbV pr inv Tr On g k v n K)
  | 0, _, _, _, h, h2 => ⟨h, h2⟩
  | n + 1, v, K, hk, h, h2 => by
    unfold sbV
    split
    · obtain ⟨a, b⟩ := sbS_pos (v := v) hO hT hOn hk h h2
      exact sbV_pos hO hT hOn n (v + 1) _ (Nat.lt_of_lt_of_le hk sbS_n) a b
    · exact ⟨h, h2⟩
theorem sbK_pos {cs : Nat → ClassId} {ad : Nat → Nat} {pr : Int} {inv : Nat → Int} {O : Nat → va_E} (hO : arO cs ad pr inv O) {Tr On : Nat → Int} (hT : okp pr 25 Tr) (hOn : okp pr 25 On) {f g : Nat} : ∀ (n k : Nat) (K : KS), k + n ≤ K.1 → posK f K → okK pr K → posK f (sbK pr inv Tr On g k n K) ∧ okK pr (sbK pr inv Tr On g k n K) ∧ K.1 ≤ (sbK pr inv Tr On g k n K).1
  | 0, _, _, _, h, h2 => ⟨h, h2, Nat.le_refl _⟩
  | n + 1, k, K, hk, h, h2 => by
    obtain ⟨a, b⟩ := sbV_pos (g := g) hO hT hOn pr.toNat 0 K (show k < K.1 by omega) h h2
    have hn : K.1 ≤ (sbV pr inv Tr On g k 0 pr.toNat K).1 := sbV_n _ _ _
    obtain ⟨a2, b2, c2⟩ := sbK_pos (g := g) hO hT hOn n (k + 1) _ (by omega) a b
    exact ⟨a2, b2, Nat.le_trans hn c2⟩
/-- the group is cut into its factors of degree g -/
def splL (pr : Int) (inv : Nat → Int) (X On Gp : Nat → Int) (g f : Nat) (due : Int) : Nat → Nat → KS → (Nat → Int) → KS
  | 0, _, K, _ => K
  | n + 1, i, K, Pw => if (i : Int) < dg 300 Gp ∧ (K.1 : Int) < due then splL pr inv X On Gp g f due n (i + 1) (sbK pr inv (trL pr inv Gp (g - 1) (mulm pr inv X Pw Gp, mulm pr inv X Pw Gp)).2 On g f (K.1 - f) K) (mulm pr inv X Pw Gp) else K
def splK (pr : Int) (inv : Nat → Int) (X On Gp : Nat → Int) (g : Nat) (K : KS) : KS := splL pr inv X On Gp g K.1 ((K.1 : Int) + dg 300 Gp / g) 24 1 (appK K Gp 0) On
theorem trL_ok {cs : Nat → ClassId} {ad : Nat → Nat} {pr : Int} {inv : Nat → Int} {O : Nat → va_E} (hO : arO cs ad pr inv O) {M : Nat → Int} (hM : okp pr 25 M) (hd : 0 ≤ dg 300 M) : ∀ (n : Nat) (z : P2), okp pr 25 z.1 → dg 300 z.1 ≤ 23 → okp pr 25 z.2 → okp pr 25 (trL pr inv M n z).2
  | 0, z, _, _, h => h
  | n + 1, z, h1, h2, h3 => by
    have hpr := hO.2.2.1
    have hdm := (hM.ok hpr.2).dlt 300
    have hf := (frm_ok hO h1 hM h2 hd).1
    have hdf := (hf.ok hpr.2).dlt 300
    have hI := hf.mono (m := 25) (by omega)
    exact trL_ok hO hM hd n (frm pr inv z.1 M, addS pr z.2 1 0 (frm pr inv z.1 M)) hI (by show dg 300 (frm pr inv z.1 M) ≤ 23; omega) (addS_ok (t := 0) (by omega) h3 (fun x hx => hI.2 x (by omega)))
section SP
variable {p : Program} {l : Launch} {e : Env} {s : State} {m : MethodId} {args : Array Value} {below : List Frame} {meth : Method} {c : Code} {H : Heap} {locs : List Loc} {Q : State → Prop} {D : va_G} {cs : Nat → ClassId} {A : Nat → Prop} {ad : Nat → Nat} {T : Nat} {O : Nat → va_E} {pr : Int} {inv : Nat → Int}
variable {g : Nat} {G : Nat → Nat → Int}
theorem l_Cu_split (X : Cx p s m args c b_Cu_split RCu) (hml : c.maxLocals = 5) (hT : 132 ≤ T) (hO0 : arO cs ad pr inv O) (h9 : okp pr 25 (G 9)) (hd9 : 0 < dg 300 (G 9)) (h14 : okp pr 25 (G 14)) (h15 : okp pr 25 (G 15)) (hg : 1 ≤ g ∧ g ≤ 24) {f : Nat} {due : Int} (hdue : 0 ≤ due ∧ due ≤ 1000) {ph : Nat → Nat} {Z : KS}
    (KK : ∀ (G1 : Nat → Nat → Int) (O1 : Nat → va_E) (H : Heap) (locs : List Loc) (ls : Array Slot), Wd D cs A ad T s (mkV cs ad (rV G1) O1) H locs → cuS pr cs ad G1 O1 Z ph → WF G1 → (∀ j, j < 37 → j ≠ 0 → j ≠ 1 → j ≠ 2 → j ≠ 3 → j ≠ 10 → j ≠ 11 → j ≠ 12 → j ≠ 13 → G1 j = G j) → cuFr O O1 → posK f Z → f ≤ Z.1 → W p l e { frames := 5, cells := 0, slots := 0, locals := 125 } s m args below meth c H locs 0 0 Q (F0 m 100 ls [])) :
    ∀ (n i : Nat) (K : KS) (G1 : Nat → Nat → Int) (O1 : Nat → va_E) (H : Heap) (locs : List Loc) (ls : Array Slot), i + n = 25 → f ≤ K.1 → posK f K → okp pr 25 (G1 10) → splL pr inv (G 15) (G 14) (G 9) g f due n i K (G1 10) = Z → Wd D cs A ad T s (mkV cs ad (rV G1) O1) H locs → cuS pr cs ad G1 O1 K ph → WF G1 → (∀ j, j < 37 → j ≠ 0 → j ≠ 1 → j ≠ 2 → j ≠ 3 → j ≠ 10 → j ≠ 11 → j ≠ 12 → j ≠ 13 → G1 j = G j) → cuFr O O1 → lv_has ls 5 [(0, .ref (ad (125))), (1, .int (iI (g))), (2, .int (iI (f))), (3, .int (iI (due))), (4, .int (iI (i)))] → W p l e { frames := 5, cells := 0, slots := 0, locals := 125 } s m args below meth c H locs 0 0 Q (F0 m 40 ls []) := by
  have hpr := hO0.2.2.1
  have hd9b := (h9.ok hpr.2).dlt 300
  intro n
  induction n with
  | zero =>
    intro i K G1 O1 H locs ls h1 hf hpos h10 hz w hK hW hF hc hl
    have hU := hK.1
    have hG9 : dg 300 (G1 9) = dg 300 (G 9) := by rw [hF 9 (by omega) (by omega) (by omega) (by omega) (by omega) (by omega) (by omega) (by omega) (by omega)]
    have hz : K = Z := hz
    subst hz
    refine lv_iload X.1 X.2.1 d_Cu_split_40 (lv_at hl 4 rfl) ?_
    refine lv_aload_n X.1 X.2.1 d_Cu_split_42 rfl (lv_at hl 0 rfl) ?_
    refine t_cu X hT w hU 6 (by decide) k_f_Cu_39 rfl d_Cu_split_43 ?_
    refine g_deg (k := 9) X hT w (by omega) k_f_Cu_63 d_Cu_split_46 ?_
    refine i_ge (a := i) (b := dg 300 (G1 9)) (tgt := 100) X (by omega) (by omega) d_Cu_split_49 (by decide) (fun h_49 => ?_) (fun h_49 => ?_)
    · exact KK G1 O1 H locs ls w hK hW hF hc hpos hf
    · exact absurd h_49 (by omega)
  | succ n ih =>
    intro i K G1 O1 H locs ls h1 hf hpos h10 hz w hK hW hF hc hl
    have hU := hK.1
    have hn := hU.2.2.2.1
    have hO := hc.ar hO0
    have hG9a : G1 9 = G 9 := hF 9 (by omega) (by omega) (by omega) (by omega) (by omega) (by omega) (by omega) (by omega) (by omega)
    have hG9 : dg 300 (G1 9) = dg 300 (G 9) := by rw [hG9a]
    have hG14 : G1 14 = G 14 := hF 14 (by omega) (by omega) (by omega) (by omega) (by omega) (by omega) (by omega) (by omega) (by omega)
    have hG15 : G1 15 = G 15 := hF 15 (by omega) (by omega) (by omega) (by omega) (by omega) (by omega) (by omega) (by omega) (by omega)
    have hmu := mulm_ok hO h15 h10 h9 (Int.le_of_lt hd9)
    have hmt : okp pr (dg 300 (G 9)).toNat (mulm pr inv (G 15) (G1 10) (G 9)) := by
      have hP : okp pr 300 (prd pr (G 15) (G1 10)) := prd_ok (by omega) hpr.2 h15 h10 (by omega) (by have := (h15.ok hpr.2).dlt 300; have := (h10.ok hpr.2).dlt 300; omega)
      exact dvm_ok25 hO hP h9 (by omega) (by omega) (by omega) (by omega)
    have hdmt := (hmt.ok hpr.2).dlt 300
    unfold splL at hz
    refine lv_iload X.1 X.2.1 d_Cu_split_40 (lv_at hl 4 rfl) ?_
    refine lv_aload_n X.1 X.2.1 d_Cu_split_42 rfl (lv_at hl 0 rfl) ?_
    refine t_cu X hT w hU 6 (by decide) k_f_Cu_39 rfl d_Cu_split_43 ?_
    refine g_deg (k := 9) X hT w (by omega) k_f_Cu_63 d_Cu_split_46 ?_
    refine i_ge (a := i) (b := dg 300 (G1 9)) (tgt := 100) X (by omega) (by omega) d_Cu_split_49 (by decide) (fun h_49 => ?_) (fun h_49 => ?_)
    · rw [if_neg (fun h => by omega)] at hz
      subst hz
      exact KK G1 O1 H locs ls w hK hW hF hc hpos hf
    · refine lv_aload_n X.1 X.2.1 d_Cu_split_52 rfl (lv_at hl 0 rfl) ?_
      refine t_cu X hT w hU 2 (by decide) k_f_Cu_28 rfl d_Cu_split_53 ?_
      refine lv_iload_n X.1 X.2.1 d_Cu_split_56 rfl (lv_at hl 3 rfl) ?_
      refine i_ge (a := (K.1 : Nat)) (b := due) (tgt := 100) X (by omega) (by omega) d_Cu_split_57 (by decide) (fun h_57 => ?_) (fun h_57 => ?_)
      · rw [if_neg (fun h => by omega)] at hz
        subst hz
        exact KK G1 O1 H locs ls w hK hW hF hc hpos hf
      · refine lv_aload_n X.1 X.2.1 d_Cu_split_60 rfl (lv_at hl 0 rfl) ?_
        refine t_cu X hT w hU 3 (by decide) k_f_Cu_9 rfl d_Cu_split_61 ?_
        refine lv_aload_n X.1 X.2.1 d_Cu_split_64 rfl (lv_at hl 0 rfl) ?_
        refine t_cu X hT w hU 7 (by decide) k_f_Cu_42 rfl d_Cu_split_65 ?_
        refine lv_aload_n X.1 X.2.1 d_Cu_split_68 rfl (lv_at hl 0 rfl) ?_
        refine t_cu X hT w hU 12 (by decide) k_f_Cu_60 rfl d_Cu_split_69 ?_
        refine lv_aload_n X.1 X.2.1 d_Cu_split_72 rfl (lv_at hl 0 rfl) ?_
        refine t_cu X hT w hU 7 (by decide) k_f_Cu_42 rfl d_Cu_split_73 ?_
        refine lv_aload_n X.1 X.2.1 d_Cu_split_76 rfl (lv_at hl 0 rfl) ?_
        refine t_cu X hT w hU 6 (by decide) k_f_Cu_39 rfl d_Cu_split_77 ?_
        refine w_cVv (n := 4) (i := 123) (ci := 1) (As := [.ref (ad (2 * 10)), .ref (ad (2 * 15)), .ref (ad (2 * 10)), .ref (ad (2 * 9))]) (rest := []) X w hml hl.1 (c_Ar_multiply hT (G := G1) hO (t := 10) (a := 15) (b := 10) (d := 9) (by omega) (by omega) (by omega) (by omega) hW (by rw [hG15]; exact h15) h10 (by rw [hG9a]; exact h9) (by omega)) (by omega) (by rw [mkV_O (by decide)]; exact hO.1) rfl k_m_Cu_121 k_im_Ar_multiply k_se_Ar_multiply k_i_Ar k_co_Ar_multiply (by decide +kernel) rfl ⟨Nat.le_of_ble_eq_true rfl, Nat.le_of_ble_eq_true rfl⟩ ⟨rfl, rfl⟩ ⟨Nat.zero_le _, Nat.zero_le _⟩ rfl (Nat.le_of_ble_eq_true rfl) d_Cu_split_80 (fun C' H locs hp w => ?_)
        subst hp
        obtain ⟨Gw1, eGw1⟩ : ∃ gg : Nat → Nat → Int, gg = va_up (va_up (va_up G1 0 (dvm pr inv (prd pr (G1 15) (G1 10)) (G1 9)).2) 1 (dvm pr inv (prd pr (G1 15) (G1 10)) (G1 9)).1) 10 (dvm pr inv (prd pr (G1 15) (G1 10)) (G1 9)).1 := ⟨_, rfl⟩
        rw [← eGw1] at w
        rw [hG15, hG9a] at eGw1
        have hW1 : WF Gw1 := by rw [eGw1]; exact WF.mul hO hW h15 h10 h9 (Int.le_of_lt hd9) (by omega)
        have f10 : Gw1 10 = mulm pr inv (G 15) (G1 10) (G 9) := by rw [eGw1, va_up_self]; rfl
        have hF1 : ∀ j, j ≠ 0 → j ≠ 1 → j ≠ 10 → Gw1 j = G1 j := fun j j0 j1 j10 => by rw [eGw1, va_up_ne _ _ j10, va_up_ne _ _ j1, va_up_ne _ _ j0]
        have f9 : Gw1 9 = G 9 := by rw [hF1 9 (by omega) (by omega) (by omega), hG9a]
        refine lv_aload_n X.1 X.2.1 d_Cu_split_83 rfl (lv_at hl 0 rfl) ?_
        refine lv_iload_n X.1 X.2.1 d_Cu_split_84 rfl (lv_at hl 1 rfl) ?_
        refine w_cVv (n := 1) (i := 125) (ci := 2) (As := [.int (iI (g))]) (rest := []) X w hml hl.1 (c_Cu_findTrace hT (G := Gw1) hO hU (g := g) hg.2 hW1 (by rw [f10]; exact hmu.1) (by rw [f10]; omega) (by rw [f9]; exact h9) (by rw [f9]; omega)) (by omega) (by rw [mkV_O (by decide)]; exact hU.1) rfl k_m_Cu_125 k_im_Cu_findTrace k_se_Cu_findTrace k_i_Cu k_co_Cu_findTrace (by decide +kernel) rfl ⟨Nat.le_of_ble_eq_true rfl, Nat.le_of_ble_eq_true rfl⟩ ⟨rfl, rfl⟩ ⟨Nat.zero_le _, Nat.zero_le _⟩ rfl (Nat.le_of_ble_eq_true rfl) d_Cu_split_85 (fun C' H locs hp w => ?_)
        obtain ⟨G2, rfl, hW2, e11, ok11, hF2⟩ := hp
        rw [f9, f10] at e11
        have hF2b : ∀ j, j ≠ 0 → j ≠ 1 → j ≠ 10 → j ≠ 11 → j ≠ 13 → G2 j = G1 j := fun j j0 j1 j10 j11 j13 => by rw [hF2 j j0 j1 j11 j13, hF1 j j0 j1 j10]
        have hK2 : cuS pr cs ad G2 O1 K ph := ⟨hU, fun i hi => by have := hU.2.2.2.2.1 i hi; rw [hF2b _ (by omega) (by omega) (by omega) (by omega) (by omega)]; exact hK.2.1 i hi, hK.2.2⟩
        have g14 : G2 14 = G 14 := by rw [hF2b 14 (by omega) (by omega) (by omega) (by omega) (by omega), hG14]
        have g10 : G2 10 = mulm pr inv (G 15) (G1 10) (G 9) := by rw [hF2 10 (by omega) (by omega) (by omega) (by omega), f10]
        refine lv_aload_n X.1 X.2.1 d_Cu_split_88 rfl (lv_at hl 0 rfl) ?_
        refine lv_iload_n X.1 X.2.1 d_Cu_split_89 rfl (lv_at hl 2 rfl) ?_
        refine lv_iload_n X.1 X.2.1 d_Cu_split_90 rfl (lv_at hl 1 rfl) ?_
        refine w_cVv (n := 2) (i := 125) (ci := 2) (As := [.int (iI (f)), .int (iI (g))]) (rest := []) X w hml hl.1 (c_Cu_splitByTrace hT (G := G2) hO hK2 (f := f) (g := g) hf hg.2 hW2 ok11 (by rw [g14]; exact h14)) (by omega) (by rw [mkV_O (by decide)]; exact hU.1) rfl k_m_Cu_128 k_im_Cu_splitByTrace k_se_Cu_splitByTrace k_i_Cu k_co_Cu_splitByTrace (by decide +kernel) rfl ⟨Nat.le_of_ble_eq_true rfl, Nat.le_of_ble_eq_true rfl⟩ ⟨rfl, rfl⟩ ⟨Nat.zero_le _, Nat.zero_le _⟩ rfl (Nat.le_of_ble_eq_true rfl) d_Cu_split_91 (fun C' H locs hp w => ?_)
        obtain ⟨G3, O3, rfl, hK3, hW3, hF3, hc3⟩ := hp
        refine i_inc (k := 4) (x := i) (lv' := [(4, .int (iI (i + 1))), (0, .ref (ad (125))), (1, .int (iI (g))), (2, .int (iI (f))), (3, .int (iI (due)))]) X d_Cu_split_94 hl rfl (by decide) rfl (fun ls hl => ?_)
        refine lv_goto (tgt := 40) X.1 X.2.1 d_Cu_split_97 (by decide) ?_
        rw [if_pos ⟨by omega, by omega⟩] at hz
        rw [e11, g14] at hK3
        have hT2 : okp pr 25 (trL pr inv (G 9) (g - 1) (mulm pr inv (G 15) (G1 10) (G 9), mulm pr inv (G 15) (G1 10) (G 9))).2 := by rw [← e11]; exact ok11
        obtain ⟨p1, p2, p3⟩ := sbK_pos (g := g) hO hT2 h14 (f := f) (K.1 - f) f K (by omega) hpos hK.2.2
        have g3 : G3 10 = mulm pr inv (G 15) (G1 10) (G 9) := by rw [hF3 10 (by omega) (by omega) (by omega) (by omega) (by omega) (by omega), g10]
        exact ih (i + 1) _ G3 O3 H locs ls (by omega) (Nat.le_trans hf p3) p1 (by rw [g3]; exact hmu.1) (by rw [g3]; exact hz) w hK3 hW3 (fun j hj j0 j1 j2 j3 j10 j11 j12 j13 => by rw [hF3 j hj j0 j2 j3 j12 j13, hF2b j j0 j1 j10 j11 j13]; exact hF j hj j0 j1 j2 j3 j10 j11 j12 j13) (hc.tr hc3) (lv_sub hl [1, 2, 3, 4, 0] rfl)
end SP
theorem c_Cu_split {l : Launch} {D : va_G} {cs : Nat → ClassId} {A : Nat → Prop} {ad : Nat → Nat} {T : Nat} (hT : 132 ≤ T) {G : Nat → Nat → Int} {O : Nat → va_E} {pr : Int} {inv : Nat → Int} (hO : arO cs ad pr inv O) {K : KS} {ph : Nat → Nat} (hK : cuS pr cs ad G O K ph) {g : Nat} (hg : 1 ≤ g ∧ g ≤ 24) (hW : WF G) (h9 : okp pr 25 (G 9)) (hd9 : 0 < dg 300 (G 9)) (h14 : okp pr 25 (G 14)) (h15 : okp pr 25 (G 15)) : Cv l y_Cu_split ws_Cu_split { frames := 5, cells := 0, slots := 0, locals := 125 } D cs A ad T [.ref (ad (125)), .int (iI (g))] (mkV cs ad (rV G) O) (fun C' => ∃ G' O', C' = mkV cs ad (rV G') O' ∧ cuS pr cs ad G' O' (splK pr inv (G 15) (G 14) (G 9) g K) ph ∧ WF G' ∧ (∀ j, j < 37 → j ≠ 0 → j ≠ 1 → j ≠ 2 → j ≠ 3 → j ≠ 10 → j ≠ 11 → j ≠ 12 → j ≠ 13 → G' j = G j) ∧ cuFr O O' ∧ posK K.1 (splK pr inv (G 15) (G 14) (G 9) g K) ∧ K.1 ≤ (splK pr inv (G 15) (G 14) (G 9) g K).1) := by
  refine w_bodyV (by decide) (Nat.le_of_ble_eq_true rfl) ?_
  intro p e s m below meth c X hr hlk hml w ls hl
  have hl : lv_has ls 5 [(0, .ref (ad (125))), (1, .int (iI (g)))] := hl
  have hpr := hO.2.2.1
  have hU := hK.1
  have hn := hU.2.2.2.1
  have hd9b := (h9.ok hpr.2).dlt 300
  have hdv : 0 ≤ dg 300 (G 9) / g ∧ dg 300 (G 9) / g ≤ 25 := ⟨Int.ediv_nonneg (by omega) (by omega), Int.le_trans (Int.ediv_le_self _ (by omega)) (by omega)⟩
  refine lv_aload_n X.1 X.2.1 d_Cu_split_0 rfl (lv_at hl 0 rfl) ?_
  refine t_cu X hT w hU 2 (by decide) k_f_Cu_28 rfl d_Cu_split_1 ?_
  refine lv_istore_n (lv' := [(2, .int (iI ((K.1 : Nat)))), (0, .ref (ad (125))), (1, .int (iI (g)))]) X.1 X.2.1 d_Cu_split_4 rfl hl (by decide) rfl (fun ls hl => ?_)
  refine lv_iload_n X.1 X.2.1 d_Cu_split_5 rfl (lv_at hl 0 rfl) ?_
  refine lv_aload_n X.1 X.2.1 d_Cu_split_6 rfl (lv_at hl 1 rfl) ?_
  refine t_cu X hT w hU 6 (by decide) k_f_Cu_39 rfl d_Cu_split_7 ?_
  refine g_deg (k := 9) X hT w (by omega) k_f_Cu_63 d_Cu_split_10 ?_
  refine lv_iload_n X.1 X.2.1 d_Cu_split_13 rfl (lv_at hl 2 rfl) ?_
  refine i_div (a := dg 300 (G 9)) (b := g) X (by omega) (by omega) d_Cu_split_14 ?_
  refine i_add (a := (K.1 : Nat)) (b := (dg 300 (G 9)) / g) X d_Cu_split_15 ?_
  refine lv_istore_n (lv' := [(3, .int (iI ((K.1 : Nat) + ((dg 300 (G 9)) / g)))), (2, .int (iI ((K.1 : Nat)))), (0, .ref (ad (125))), (1, .int (iI (g)))]) X.1 X.2.1 d_Cu_split_16 rfl hl (by decide) rfl (fun ls hl => ?_)
  refine lv_aload_n X.1 X.2.1 d_Cu_split_17 rfl (lv_at hl 2 rfl) ?_
  refine lv_aload_n X.1 X.2.1 d_Cu_split_18 rfl (lv_at hl 2 rfl) ?_
  refine t_cu X hT w hU 6 (by decide) k_f_Cu_39 rfl d_Cu_split_19 ?_
  refine lv_iconst (v := iI (0)) X.1 X.2.1 d_Cu_split_22 (by decide) ?_
  refine w_cVv (n := 2) (i := 125) (ci := 2) (As := [.ref (ad (2 * 9)), .int (iI (0))]) (rest := []) X w hml hl.1 (c_Cu_append hT (G := G) hO hK (k := 9) (v := 0) (by omega) hW h9) (by omega) (by rw [mkV_O (by decide)]; exact hU.1) rfl k_m_Cu_84 k_im_Cu_append k_se_Cu_append k_i_Cu k_co_Cu_append (by decide +kernel) rfl ⟨Nat.le_of_ble_eq_true rfl, Nat.le_of_ble_eq_true rfl⟩ ⟨rfl, rfl⟩ ⟨Nat.zero_le _, Nat.zero_le _⟩ rfl (Nat.le_of_ble_eq_true rfl) d_Cu_split_23 (fun C' H locs hp w => ?_)
  obtain ⟨G1, O1, rfl, hK1, hW1, hF1, hc1⟩ := hp
  have hU1 := hK1.1
  have hU := hK1.1
  have f14 : G1 14 = G 14 := hF1 14 (by omega)
  refine lv_aload_n X.1 X.2.1 d_Cu_split_26 rfl (lv_at hl 2 rfl) ?_
  refine t_cu X hT w hU 7 (by decide) k_f_Cu_42 rfl d_Cu_split_27 ?_
  refine lv_aload_n X.1 X.2.1 d_Cu_split_30 rfl (lv_at hl 2 rfl) ?_
  refine t_cu X hT w hU 11 (by decide) k_f_Cu_54 rfl d_Cu_split_31 ?_
  refine w_cVv (n := 1) (i := 2 * 10) (ci := 0) (As := [.ref (ad (2 * 14))]) (rest := []) X w hml hl.1 (c_Po_copyFrom hT (G := G1) (k := 10) (q := 14) (by omega) (by omega) (by omega) (hW1 10 (by omega)) (hW1 14 (by omega)) (by rw [f14]; exact h14.ok hpr.2)) (by omega) (mkV_o (by omega)) rfl k_m_Cu_66 k_im_Po_copyFrom k_se_Po_copyFrom k_i_Po k_co_Po_copyFrom (by decide +kernel) rfl ⟨Nat.le_of_ble_eq_true rfl, Nat.le_of_ble_eq_true rfl⟩ ⟨rfl, rfl⟩ ⟨Nat.zero_le _, Nat.zero_le _⟩ rfl (Nat.le_of_ble_eq_true rfl) d_Cu_split_34 (fun C' H locs hp w => ?_)
  subst hp
  obtain ⟨Gw1, eGw1⟩ : ∃ gg : Nat → Nat → Int, gg = va_up G1 10 (G1 14) := ⟨_, rfl⟩
  rw [← eGw1] at w
  refine lv_iconst (v := iI (1)) X.1 X.2.1 d_Cu_split_37 (by decide) ?_
  refine lv_istore (lv' := [(4, .int (iI (1))), (3, .int (iI ((K.1 : Nat) + ((dg 300 (G 9)) / g)))), (2, .int (iI ((K.1 : Nat)))), (0, .ref (ad (125))), (1, .int (iI (g)))]) X.1 X.2.1 d_Cu_split_38 hl (by decide) rfl (fun ls hl => ?_)
  rw [f14] at eGw1
  have hFw : ∀ j, j < 37 → j ≠ 10 → Gw1 j = G j := fun j hj j10 => by rw [eGw1, va_up_ne _ _ j10, hF1 j hj]
  have k9 : Gw1 9 = G 9 := hFw 9 (by omega) (by omega)
  have k14 : Gw1 14 = G 14 := hFw 14 (by omega) (by omega)
  have k15 : Gw1 15 = G 15 := hFw 15 (by omega) (by omega)
  have k10 : Gw1 10 = G 14 := by rw [eGw1, va_up_self]
  have hKw : cuS pr cs ad Gw1 O1 (appK K (G 9) 0) ph := ⟨hU1, fun i hi => by have := hU1.2.2.2.2.1 i hi; rw [eGw1, va_up_ne _ _ (by omega)]; exact hK1.2.1 i hi, hK1.2.2⟩
  exact l_Cu_split (G := Gw1) (O := O1) (g := g) (f := K.1) (due := (K.1 : Int) + dg 300 (G 9) / g) (ph := ph) (Z := (splK pr inv (G 15) (G 14) (G 9) g K)) X hml hT (hc1.ar hO) (by rw [k9]; exact h9) (by rw [k9]; exact hd9) (by rw [k14]; exact h14) (by rw [k15]; exact h15) hg (by omega) (fun G2 O2 H locs ls w a1 a2 a3 a4 a5 a6 => w_vret X hr hlk w ⟨G2, O2, rfl, a1, a2, fun j hj j0 j1 j2 j3 j10 j11 j12 j13 => by rw [a3 j hj j0 j1 j2 j3 j10 j11 j12 j13, hFw j hj j10], hc1.tr a4, a5, a6⟩ d_Cu_split_100) 24 1 (appK K (G 9) 0) Gw1 O1 _ _ _ (by omega) (appK_n _ _ _).1 (appK_pos (fun i h1 h2 => absurd h2 (by omega)) hd9) (by rw [k10]; exact h14) (by rw [k10, k9, k14, k15]; rfl) w hKw (by rw [eGw1]; exact hW1.up (k := 10) (h14.ok hpr.2)) (fun _ _ _ _ _ _ _ _ _ _ => rfl) cuFr.rf (lv_sub hl [3, 4, 2, 1, 0] rfl)
