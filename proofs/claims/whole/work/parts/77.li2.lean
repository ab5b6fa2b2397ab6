theorem o_get {l : Launch} {D : va_G} {cs : Nat → ClassId} {A : Nat → Prop} {ad : Nat → Nat} {T : Nat} {th : Int} {C : Nat → va_E} (hst : l.stackTraces = false) (hT : 213 ≤ T) (h : LIt cs ad th C) {r i : Int} (h1 : rg r) (h2 : rg i) : OPC l y_Ff_get ws_Ff_get { frames := 7, cells := 2, slots := 12, locals := 111 } 2 y_Mo_get ws_Mo_get { frames := 2, cells := 0, slots := 0, locals := 43 } [.int (iI (r)), .int (iI (i))] (fun E k => (E = xNSE ∧ k = 1) ∨ (E = xIAE ∧ k = 2)) D cs A ad T C := by
  obtain ⟨ov, pr, inv, K, KR, Rg, M, hc, hm, hr, ho⟩ := h
  obtain ⟨G, ph, lo, hi, e, hcl, hg⟩ := id hc
  obtain ⟨hI, hok, hK24, hKo, hC122⟩ := CLI_f hc
  have hok2 : ∀ r, r < 16 → okp pr 25 (M r) := fun r hr2 => by rw [hr.2.1 r hr2]; exact hok r hr2
  have hok3 : ∀ r, r < 16 → okp pr 50 (M r) := fun r hr2 => (hok2 r hr2).mono (by omega)
  have hGM : ∀ r, r < 16 → G (21 + r) = M r := fun r hr2 => (hg r hr2).trans (hr.2.1 r hr2).symm
  refine ⟨_, _, FXi_e (c_Ff_get hst (by omega) hcl h1 h2) e.symm, ?_, ?_⟩
  · rintro x C1 ⟨r1, r2, r3, r9⟩
    have r9 : C1 = C := r9.trans e.symm
    rw [r9]
    refine ⟨⟨ov, ho⟩, ⟨_, MOI_f hm⟩, fun z => ?_⟩
    have hm2 := stg hm (fun _ _ => rfl) z
    have hc2 := stgC hc z
    have hz2 : va_up C 137 (aL cs 1 z) 137 = aL cs 1 z := va_up_self _ _ _
    refine ⟨_, CR_of (c_Mo_get hT hm2.2.1.1 h1 h2) hm2.1.symm, ?_⟩
    rintro y C2 (⟨a1, _, _⟩ | ⟨a1, a2, a3, a4⟩)
    · rw [outF_in r1, outF_in r2] at a1; omega
    · refine ⟨endR hc2 hm2 hz2 hr.1 hr.2.2 hm.2.2.2 a4 (fun _ _ _ => rfl) hr.2.1, ?_⟩
      rw [a3, r3, hGM r.toNat (by omega)]
  · rintro E C1 ⟨e1, e2⟩
    have e1 : C1 = C := e1.trans e.symm
    rw [e1]
    rcases e2 with ⟨rfl, b1⟩ | ⟨rfl, b1, b2⟩
    · refine ⟨1, .inl ⟨rfl, rfl⟩, ⟨_, MOI_f hm⟩, _, CR_of (c_Mo_get hT hm.2.1.1 h1 h2) hm.1.symm, ?_⟩
      rintro y C2 (⟨_, _, a4⟩ | ⟨a1, _⟩)
      · rw [if_pos b1] at a4; exact ⟨_, endR hc hm ho hr.1 hr.2.2 hm.2.2.2 a4 (fun _ _ _ => rfl) hr.2.1⟩
      · rw [outF_in a1] at b1; omega
    · refine ⟨2, .inr ⟨rfl, rfl⟩, ⟨_, MOI_f hm⟩, _, CR_of (c_Mo_get hT hm.2.1.1 h1 h2) hm.1.symm, ?_⟩
      rintro y C2 (⟨_, _, a4⟩ | ⟨_, a1, _⟩)
      · rw [if_neg (by rw [outF_in b1]; decide)] at a4; exact ⟨_, endR hc hm ho hr.1 hr.2.2 hm.2.2.2 a4 (fun _ _ _ => rfl) hr.2.1⟩
      · rw [outF_in a1] at b2; omega
theorem o_set {l : Launch} {D : va_G} {cs : Nat → ClassId} {A : Nat → Prop} {ad : Nat → Nat} {T : Nat} {th : Int} {C : Nat → va_E} (hst : l.stackTraces = false) (hT : 213 ≤ T) (h : LIt cs ad th C) {r i v : Int} (h1 : rg r) (h2 : rg i) (h3 : rg v) : OPC l y_Ff_set ws_Ff_set { frames := 7, cells := 2, slots := 12, locals := 111 } 2 y_Mo_set ws_Mo_set { frames := 2, cells := 0, slots := 0, locals := 43 } [.int (iI (r)), .int (iI (i)), .int (iI (v))] (fun E k => (E = xNSE ∧ k = 1) ∨ (E = xIAE ∧ k = 2)) D cs A ad T C := by
  obtain ⟨ov, pr, inv, K, KR, Rg, M, hc, hm, hr, ho⟩ := h
  obtain ⟨G, ph, lo, hi, e, hcl, hg⟩ := id hc
  obtain ⟨hI, hok, hK24, hKo, hC122⟩ := CLI_f hc
  have hok2 : ∀ r, r < 16 → okp pr 25 (M r) := fun r hr2 => by rw [hr.2.1 r hr2]; exact hok r hr2
  have hok3 : ∀ r, r < 16 → okp pr 50 (M r) := fun r hr2 => (hok2 r hr2).mono (by omega)
  have hGM : ∀ r, r < 16 → G (21 + r) = M r := fun r hr2 => (hg r hr2).trans (hr.2.1 r hr2).symm
  refine ⟨_, _, FXi_e (c_Ff_set hst (by omega) hcl h1 h2 h3) e.symm, ?_, ?_⟩
  · rintro x C1 ⟨r1, r2, r3, r9⟩
    obtain ⟨hc1, hf1⟩ := CLI_of r9
    refine ⟨⟨ov, (hf1 137 (by omega)).trans ho⟩, ⟨_, (hf1 132 (by omega)).trans (MOI_f hm)⟩, fun z => ?_⟩
    have hm2 := stg hm hf1 z
    have hc2 := stgC hc1 z
    have hz2 : va_up C1 137 (aL cs 1 z) 137 = aL cs 1 z := va_up_self _ _ _
    refine ⟨_, CR_of (c_Mo_set hT hm2.2.1.1 h1 h2 h3 hI.1) hm2.1.symm, ?_⟩
    have hpr := hI.1
    have hv9 : 0 ≤ v % pr ∧ v % pr < pr := ⟨Int.emod_nonneg _ (by omega), Int.emod_lt_of_pos _ (by omega)⟩
    have hup : okp pr 25 (va_up (M r.toNat) i.toNat (v % pr)) := up_okp (hok2 r.toNat (by omega)) (by omega) hv9
    rintro y C2 (⟨a1, _, _⟩ | ⟨a1, a2, a3, a4⟩)
    · rw [outF_in r1, outF_in r2] at a1; omega
    · refine ⟨endR hc2 hm2 hz2 hr.1 hr.2.2 (hm.2.2.2.up ((hup.mono (by omega)).ok (by omega))) a4 (fun q q1 q2 => va_up_ne _ _ (by omega)) (up_rel hGM (by rw [hGM r.toNat (by omega)])), ?_⟩
      rw [a3, r3, hGM r.toNat (by omega)]
  · rintro E C1 ⟨e1, e2⟩
    have e1 : C1 = C := e1.trans e.symm
    rw [e1]
    rcases e2 with ⟨rfl, b1⟩ | ⟨rfl, b1, b2⟩
    · refine ⟨1, .inl ⟨rfl, rfl⟩, ⟨_, MOI_f hm⟩, _, CR_of (c_Mo_set hT hm.2.1.1 h1 h2 h3 hI.1) hm.1.symm, ?_⟩
      rintro y C2 (⟨_, _, a4⟩ | ⟨a1, _⟩)
      · rw [if_pos b1] at a4; exact ⟨_, endR hc hm ho hr.1 hr.2.2 hm.2.2.2 a4 (fun _ _ _ => rfl) hr.2.1⟩
      · rw [outF_in a1] at b1; omega
    · refine ⟨2, .inr ⟨rfl, rfl⟩, ⟨_, MOI_f hm⟩, _, CR_of (c_Mo_set hT hm.2.1.1 h1 h2 h3 hI.1) hm.1.symm, ?_⟩
      rintro y C2 (⟨_, _, a4⟩ | ⟨_, a1, _⟩)
      · rw [if_neg (by rw [outF_in b1]; decide)] at a4; exact ⟨_, endR hc hm ho hr.1 hr.2.2 hm.2.2.2 a4 (fun _ _ _ => rfl) hr.2.1⟩
      · rw [outF_in a1] at b2; omega
theorem o_value {l : Launch} {D : va_G} {cs : Nat → ClassId} {A : Nat → Prop} {ad : Nat → Nat} {T : Nat} {th : Int} {C : Nat → va_E} (hst : l.stackTraces = false) (hT : 213 ≤ T) (h : LIt cs ad th C) {a v : Int} (h1 : rg a) (h2 : rg v) : OPC l y_Ff_value ws_Ff_value { frames := 7, cells := 1, slots := 6, locals := 111 } 1 y_Mo_value ws_Mo_value { frames := 2, cells := 0, slots := 0, locals := 43 } [.int (iI (a)), .int (iI (v))] (fun E k => E = xNSE ∧ k = 1) D cs A ad T C := by
  obtain ⟨ov, pr, inv, K, KR, Rg, M, hc, hm, hr, ho⟩ := h
  obtain ⟨G, ph, lo, hi, e, hcl, hg⟩ := id hc
  obtain ⟨hI, hok, hK24, hKo, hC122⟩ := CLI_f hc
  have hok2 : ∀ r, r < 16 → okp pr 25 (M r) := fun r hr2 => by rw [hr.2.1 r hr2]; exact hok r hr2
  have hok3 : ∀ r, r < 16 → okp pr 50 (M r) := fun r hr2 => (hok2 r hr2).mono (by omega)
  have hGM : ∀ r, r < 16 → G (21 + r) = M r := fun r hr2 => (hg r hr2).trans (hr.2.1 r hr2).symm
  refine ⟨_, _, FXi_e (c_Ff_value hst (by omega) hcl h1 h2) e.symm, ?_, ?_⟩
  · rintro x C1 ⟨r1, r3, r9⟩
    have r9 : C1 = C := r9.trans e.symm
    rw [r9]
    refine ⟨⟨ov, ho⟩, ⟨_, MOI_f hm⟩, fun z => ?_⟩
    have hm2 := stg hm (fun _ _ => rfl) z
    have hc2 := stgC hc z
    have hz2 : va_up C 137 (aL cs 1 z) 137 = aL cs 1 z := va_up_self _ _ _
    refine ⟨_, CR_of (c_Mo_value hT hm2.2.1.1 h1 h2 hI.1 hok3) hm2.1.symm, ?_⟩
    rintro y C2 (⟨a1, _, _⟩ | ⟨a1, a3, a4⟩)
    · rw [outF_in r1] at a1; omega
    · refine ⟨endR hc2 hm2 hz2 hr.1 hr.2.2 hm.2.2.2 a4 (fun _ _ _ => rfl) hr.2.1, ?_⟩
      rw [a3, r3, hGM a.toNat (by omega), hor_eq (hok2 a.toNat (by omega)) (by omega) (Nat.le_refl 25)]
  · rintro E C1 ⟨e1, rfl, b1⟩
    have e1 : C1 = C := e1.trans e.symm
    rw [e1]
    refine ⟨1, ⟨rfl, rfl⟩, ⟨_, MOI_f hm⟩, _, CR_of (c_Mo_value hT hm.2.1.1 h1 h2 hI.1 hok3) hm.1.symm, ?_⟩
    rintro y C2 (⟨_, _, a4⟩ | ⟨a1, _⟩)
    · exact ⟨_, endR hc hm ho hr.1 hr.2.2 hm.2.2.2 a4 (fun _ _ _ => rfl) hr.2.1⟩
    · rw [outF_in a1] at b1; omega
theorem zer_eq {pr : Int} {F : Nat → Int} {N1 N2 : Nat} (h : ∀ v : Nat, hor pr F v N1 0 = hor pr F v N2 0) : ∀ (k v : Nat) (n : Int), zerL pr F N1 v k n = zerL pr F N2 v k n
  | 0, _, _ => rfl
  | k + 1, v, n => by
    show zerL pr F N1 (v + 1) k (if hor pr F v N1 0 = 0 then n + 1 else n) = zerL pr F N2 (v + 1) k (if hor pr F v N2 0 = 0 then n + 1 else n)
    rw [h v, zer_eq h k (v + 1)]
theorem o_zeros {l : Launch} {D : va_G} {cs : Nat → ClassId} {A : Nat → Prop} {ad : Nat → Nat} {T : Nat} {th : Int} {C : Nat → va_E} (hst : l.stackTraces = false) (hT : 213 ≤ T) (h : LIt cs ad th C) {a : Int} (h1 : rg a) : OPC l y_Ff_zeros ws_Ff_zeros { frames := 7, cells := 1, slots := 6, locals := 111 } 1 y_Mo_zeros ws_Mo_zeros { frames := 2, cells := 0, slots := 0, locals := 43 } [.int (iI (a))] (fun E k => E = xNSE ∧ k = 1) D cs A ad T C := by
  obtain ⟨ov, pr, inv, K, KR, Rg, M, hc, hm, hr, ho⟩ := h
  obtain ⟨G, ph, lo, hi, e, hcl, hg⟩ := id hc
  obtain ⟨hI, hok, hK24, hKo, hC122⟩ := CLI_f hc
  have hok2 : ∀ r, r < 16 → okp pr 25 (M r) := fun r hr2 => by rw [hr.2.1 r hr2]; exact hok r hr2
  have hok3 : ∀ r, r < 16 → okp pr 50 (M r) := fun r hr2 => (hok2 r hr2).mono (by omega)
  have hGM : ∀ r, r < 16 → G (21 + r) = M r := fun r hr2 => (hg r hr2).trans (hr.2.1 r hr2).symm
  refine ⟨_, _, FXi_e (c_Ff_zeros hst (by omega) hcl h1) e.symm, ?_, ?_⟩
  · rintro x C1 ⟨r1, r3, r9⟩
    have r9 : C1 = C := r9.trans e.symm
    rw [r9]
    refine ⟨⟨ov, ho⟩, ⟨_, MOI_f hm⟩, fun z => ?_⟩
    have hm2 := stg hm (fun _ _ => rfl) z
    have hc2 := stgC hc z
    have hz2 : va_up C 137 (aL cs 1 z) 137 = aL cs 1 z := va_up_self _ _ _
    refine ⟨_, CR_of (c_Mo_zeros hT hm2.2.1.1 h1 hI.1 hok3) hm2.1.symm, ?_⟩
    rintro y C2 (⟨a1, _, _⟩ | ⟨a1, a3, a4⟩)
    · rw [outF_in r1] at a1; omega
    · refine ⟨endR hc2 hm2 hz2 hr.1 hr.2.2 hm.2.2.2 a4 (fun _ _ _ => rfl) hr.2.1, ?_⟩
      rw [a3, r3, hGM a.toNat (by omega), zer_eq (fun v => hor_eq (hok2 a.toNat (by omega)) (by omega) (Nat.le_refl 25))]
  · rintro E C1 ⟨e1, rfl, b1⟩
    have e1 : C1 = C := e1.trans e.symm
    rw [e1]
    refine ⟨1, ⟨rfl, rfl⟩, ⟨_, MOI_f hm⟩, _, CR_of (c_Mo_zeros hT hm.2.1.1 h1 hI.1 hok3) hm.1.symm, ?_⟩
    rintro y C2 (⟨_, _, a4⟩ | ⟨a1, _⟩)
    · exact ⟨_, endR hc hm ho hr.1 hr.2.2 hm.2.2.2 a4 (fun _ _ _ => rfl) hr.2.1⟩
    · rw [outF_in a1] at b1; omega
theorem o_irreducible {l : Launch} {D : va_G} {cs : Nat → ClassId} {A : Nat → Prop} {ad : Nat → Nat} {T : Nat} {th : Int} {C : Nat → va_E} (hst : l.stackTraces = false) (hT : 213 ≤ T) (h : LIt cs ad th C) {a : Int} (h1 : rg a) : OPC l y_Ff_irreducible ws_Ff_irreducible { frames := 7, cells := 1, slots := 6, locals := 143 } 1 y_Mo_irreducible ws_Mo_irreducible { frames := 3, cells := 0, slots := 0, locals := 72 } [.int (iI (a))] (fun E k => E = xNSE ∧ k = 1) D cs A ad T C := by
  obtain ⟨ov, pr, inv, K, KR, Rg, M, hc, hm, hr, ho⟩ := h
  obtain ⟨G, ph, lo, hi, e, hcl, hg⟩ := id hc
  obtain ⟨hI, hok, hK24, hKo, hC122⟩ := CLI_f hc
  have hok2 : ∀ r, r < 16 → okp pr 25 (M r) := fun r hr2 => by rw [hr.2.1 r hr2]; exact hok r hr2
  have hok3 : ∀ r, r < 16 → okp pr 50 (M r) := fun r hr2 => (hok2 r hr2).mono (by omega)
  have hGM : ∀ r, r < 16 → G (21 + r) = M r := fun r hr2 => (hg r hr2).trans (hr.2.1 r hr2).symm
  refine ⟨_, _, FXi_e (c_Ff_irreducible hst (by omega) hcl h1) e.symm, ?_, ?_⟩
  · rintro x C1 ⟨r1, r3, r9⟩
    obtain ⟨hc1, hf1⟩ := CLI_of r9
    refine ⟨⟨ov, (hf1 137 (by omega)).trans ho⟩, ⟨_, (hf1 132 (by omega)).trans (MOI_f hm)⟩, fun z => ?_⟩
    have hm2 := stg hm hf1 z
    have hc2 := stgC hc1 z
    have hz2 : va_up C1 137 (aL cs 1 z) 137 = aL cs 1 z := va_up_self _ _ _
    refine ⟨_, CR_of (c_Mo_irreducible hT hm2.2.1.1 hI h1 hm.2.2.2 hok2) hm2.1.symm, ?_⟩
    rintro y C2 (⟨a1, _, _⟩ | ⟨a1, a3, M1, a4, a5, a6⟩)
    · rw [outF_in r1] at a1; omega
    · refine ⟨endR hc2 hm2 hz2 hr.1 hr.2.2 a5 a4 (fun q q1 q2 => a6 q (by omega)) (fun q q1 => (a6 q (by omega)).trans (hGM q q1).symm), ?_⟩
      rw [a3, r3, hGM a.toNat (by omega), irr_eq hr.1 hI (hok2 a.toNat (by omega))]
  · rintro E C1 ⟨e1, rfl, b1⟩
    have e1 : C1 = C := e1.trans e.symm
    rw [e1]
    refine ⟨1, ⟨rfl, rfl⟩, ⟨_, MOI_f hm⟩, _, CR_of (c_Mo_irreducible hT hm.2.1.1 hI h1 hm.2.2.2 hok2) hm.1.symm, ?_⟩
    rintro y C2 (⟨_, _, a4⟩ | ⟨a1, _⟩)
    · exact ⟨_, endR hc hm ho hr.1 hr.2.2 hm.2.2.2 a4 (fun _ _ _ => rfl) hr.2.1⟩
    · rw [outF_in a1] at b1; omega
theorem o_order {l : Launch} {D : va_G} {cs : Nat → ClassId} {A : Nat → Prop} {ad : Nat → Nat} {T : Nat} {th : Int} {C : Nat → va_E} (hst : l.stackTraces = false) (hT : 213 ≤ T) (h : LIt cs ad th C) {a : Int} (h1 : rg a) : OPC l y_Ff_order ws_Ff_order { frames := 7, cells := 2, slots := 12, locals := 142 } 2 y_Mo_order ws_Mo_order { frames := 2, cells := 0, slots := 0, locals := 43 } [.int (iI (a))] (fun E k => (E = xNSE ∧ k = 1) ∨ (E = xIAE ∧ k = 2)) D cs A ad T C := by
  obtain ⟨ov, pr, inv, K, KR, Rg, M, hc, hm, hr, ho⟩ := h
  obtain ⟨G, ph, lo, hi, e, hcl, hg⟩ := id hc
  obtain ⟨hI, hok, hK24, hKo, hC122⟩ := CLI_f hc
  have hok2 : ∀ r, r < 16 → okp pr 25 (M r) := fun r hr2 => by rw [hr.2.1 r hr2]; exact hok r hr2
  have hok3 : ∀ r, r < 16 → okp pr 50 (M r) := fun r hr2 => (hok2 r hr2).mono (by omega)
  have hGM : ∀ r, r < 16 → G (21 + r) = M r := fun r hr2 => (hg r hr2).trans (hr.2.1 r hr2).symm
  refine ⟨_, _, FXi_e (c_Ff_order hst (by omega) hcl h1) e.symm, ?_, ?_⟩
  · rintro x C1 ⟨r1, r2, r3, r9⟩
    obtain ⟨hc1, hf1⟩ := CLI_of r9
    refine ⟨⟨ov, (hf1 137 (by omega)).trans ho⟩, ⟨_, (hf1 132 (by omega)).trans (MOI_f hm)⟩, fun z => ?_⟩
    have hm2 := stg hm hf1 z
    have hc2 := stgC hc1 z
    have hz2 : va_up C1 137 (aL cs 1 z) 137 = aL cs 1 z := va_up_self _ _ _
    refine ⟨_, CR_of (c_Mo_order hT hm2.2.1.1 hI h1 hm.2.2.2 hok2) hm2.1.symm, ?_⟩
    rw [hGM a.toNat (by omega)] at r2 r3
    rintro y C2 (⟨a1, _, _⟩ | ⟨_, a1, _, _⟩ | ⟨a1, a2, a3, M1, a4, a5, a6⟩)
    · rw [outF_in r1] at a1; omega
    · omega
    · refine ⟨endR hc2 hm2 hz2 hr.1 hr.2.2 a5 a4 (fun q q1 q2 => a6 q (by omega)) (fun q q1 => (a6 q (by omega)).trans (hGM q q1).symm), ?_⟩
      rw [a3, r3, ord_eq hr.1 hI (hok2 a.toNat (by omega)) r2]
  · rintro E C1 ⟨e1, e2⟩
    have e1 : C1 = C := e1.trans e.symm
    rw [e1]
    rcases e2 with ⟨rfl, b1⟩ | ⟨rfl, b1, b2⟩
    · refine ⟨1, .inl ⟨rfl, rfl⟩, ⟨_, MOI_f hm⟩, _, CR_of (c_Mo_order hT hm.2.1.1 hI h1 hm.2.2.2 hok2) hm.1.symm, ?_⟩
      rintro y C2 (⟨_, _, a4⟩ | ⟨a1, _⟩ | ⟨a1, _⟩)
      · exact ⟨_, endR hc hm ho hr.1 hr.2.2 hm.2.2.2 a4 (fun _ _ _ => rfl) hr.2.1⟩
      · rw [outF_in a1] at b1; omega
      · rw [outF_in a1] at b1; omega
    · rw [hGM a.toNat (by omega)] at b2
      refine ⟨2, .inr ⟨rfl, rfl⟩, ⟨_, MOI_f hm⟩, _, CR_of (c_Mo_order hT hm.2.1.1 hI h1 hm.2.2.2 hok2) hm.1.symm, ?_⟩
      rintro y C2 (⟨a1, _⟩ | ⟨_, _, _, a4⟩ | ⟨_, a1, _⟩)
      · rw [outF_in b1] at a1; omega
      · exact ⟨_, endR hc hm ho hr.1 hr.2.2 hm.2.2.2 a4 (fun _ _ _ => rfl) hr.2.1⟩
      · omega
theorem o_linear {l : Launch} {D : va_G} {cs : Nat → ClassId} {A : Nat → Prop} {ad : Nat → Nat} {T : Nat} {th : Int} {C : Nat → va_E} (hst : l.stackTraces = false) (hT : 213 ≤ T) (h : LIt cs ad th C) {t a : Int} (h1 : rg t) (h2 : rg a) : OPC l y_Ff_linear ws_Ff_linear { frames := 7, cells := 3, slots := 18, locals := 121 } 3 y_Mo_linear ws_Mo_linear { frames := 3, cells := 0, slots := 0, locals := 71 } [.int (iI (t)), .int (iI (a))] (fun E k => (E = xNSE ∧ k = 1) ∨ (E = xIAE ∧ k = 2)) D cs A ad T C := by
  obtain ⟨ov, pr, inv, K, KR, Rg, M, hc, hm, hr, ho⟩ := h
  obtain ⟨G, ph, lo, hi, e, hcl, hg⟩ := id hc
  obtain ⟨hI, hok, hK24, hKo, hC122⟩ := CLI_f hc
  have hok2 : ∀ r, r < 16 → okp pr 25 (M r) := fun r hr2 => by rw [hr.2.1 r hr2]; exact hok r hr2
  have hok3 : ∀ r, r < 16 → okp pr 50 (M r) := fun r hr2 => (hok2 r hr2).mono (by omega)
  have hGM : ∀ r, r < 16 → G (21 + r) = M r := fun r hr2 => (hg r hr2).trans (hr.2.1 r hr2).symm
  refine ⟨_, _, FXi_e (c_Ff_linear hst (by omega) hcl h1 h2) e.symm, ?_, ?_⟩
  · rintro x C1 ⟨r1, r2, r3, r4, r5, r9⟩
    obtain ⟨hc1, hf1⟩ := CLI_of r9
    refine ⟨⟨ov, (hf1 137 (by omega)).trans ho⟩, ⟨_, (hf1 132 (by omega)).trans (MOI_f hm)⟩, fun z => ?_⟩
    have hm2 := stg hm hf1 z
    have hc2 := stgC hc1 z
    have hz2 : va_up C1 137 (aL cs 1 z) 137 = aL cs 1 z := va_up_self _ _ _
    refine ⟨_, CR_of (c_Mo_linear hT hm2.2.1.1 hI h1 h2 hm.2.2.2 hok2) hm2.1.symm, ?_⟩
    have hE := lin_eq hr.1 hI (hok2 a.toNat (by omega)) (by rw [hGM a.toNat (by omega)] at r3; exact r3) pr.toNat 0
    rw [hGM a.toNat (by omega)] at r3 r4
    rintro y C2 (⟨a1, _, _⟩ | ⟨_, a1, _, _⟩ | ⟨a1, a2, a3, _, M1, a4, a5, a6⟩)
    · rw [outF_in r1, outF_in r2] at a1; omega
    · omega
    · refine ⟨endR hc2 hm2 hz2 hr.1 hr.2.2 a5 a4 (fun q q1 q2 => (a6 q (by omega)).trans (va_up_ne _ _ (by omega))) (fun q q1 => (a6 q (by omega)).trans (up_rel hGM (by rw [hGM a.toNat (by omega)]; exact hE.symm) q q1)), ?_⟩
      rw [a3, r4, hE]
  · rintro E C1 ⟨e1, e2⟩
    have e1 : C1 = C := e1.trans e.symm
    rw [e1]
    rcases e2 with ⟨rfl, b1⟩ | ⟨rfl, b1, b2, b3⟩
    · refine ⟨1, .inl ⟨rfl, rfl⟩, ⟨_, MOI_f hm⟩, _, CR_of (c_Mo_linear hT hm.2.1.1 hI h1 h2 hm.2.2.2 hok2) hm.1.symm, ?_⟩
      rintro y C2 (⟨_, _, a4⟩ | ⟨a1, _⟩ | ⟨a1, _⟩)
      · exact ⟨_, endR hc hm ho hr.1 hr.2.2 hm.2.2.2 a4 (fun _ _ _ => rfl) hr.2.1⟩
      · rw [outF_in a1.1, outF_in a1.2] at b1; omega
      · rw [outF_in a1.1, outF_in a1.2] at b1; omega
    · rw [hGM a.toNat (by omega)] at b3
      refine ⟨2, .inr ⟨rfl, rfl⟩, ⟨_, MOI_f hm⟩, _, CR_of (c_Mo_linear hT hm.2.1.1 hI h1 h2 hm.2.2.2 hok2) hm.1.symm, ?_⟩
      rintro y C2 (⟨a1, _⟩ | ⟨_, _, _, a4⟩ | ⟨_, a1, _⟩)
      · rw [outF_in b1, outF_in b2] at a1; omega
      · exact ⟨_, endR hc hm ho hr.1 hr.2.2 hm.2.2.2 a4 (fun _ _ _ => rfl) hr.2.1⟩
      · omega
theorem o_power {l : Launch} {D : va_G} {cs : Nat → ClassId} {A : Nat → Prop} {ad : Nat → Nat} {T : Nat} {th : Int} {C : Nat → va_E} (hst : l.stackTraces = false) (hT : 213 ≤ T) (h : LIt cs ad th C) {t a n d : Int} (h1 : rg t) (h2 : rg a) (h3 : rg n) (h4 : rg d) : OPC l y_Ff_power ws_Ff_power { frames := 7, cells := 4, slots := 24, locals := 123 } 4 y_Mo_power ws_Mo_power { frames := 3, cells := 0, slots := 0, locals := 72 } [.int (iI (t)), .int (iI (a)), .int (iI (n)), .int (iI (d))] (fun E k => (E = xNSE ∧ k = 1) ∨ (E = xIAE ∧ k = 2)) D cs A ad T C := by
  obtain ⟨ov, pr, inv, K, KR, Rg, M, hc, hm, hr, ho⟩ := h
  obtain ⟨G, ph, lo, hi, e, hcl, hg⟩ := id hc
  obtain ⟨hI, hok, hK24, hKo, hC122⟩ := CLI_f hc
  have hok2 : ∀ r, r < 16 → okp pr 25 (M r) := fun r hr2 => by rw [hr.2.1 r hr2]; exact hok r hr2
  have hok3 : ∀ r, r < 16 → okp pr 50 (M r) := fun r hr2 => (hok2 r hr2).mono (by omega)
  have hGM : ∀ r, r < 16 → G (21 + r) = M r := fun r hr2 => (hg r hr2).trans (hr.2.1 r hr2).symm
  refine ⟨_, _, FXi_e (c_Ff_power hst (by omega) hcl h1 h2 h3 h4) e.symm, ?_, ?_⟩
  · rintro x C1 ⟨r1, r2, r3, r4, r9⟩
    obtain ⟨hc1, hf1⟩ := CLI_of r9
    refine ⟨⟨ov, (hf1 137 (by omega)).trans ho⟩, ⟨_, (hf1 132 (by omega)).trans (MOI_f hm)⟩, fun z => ?_⟩
    have hm2 := stg hm hf1 z
    have hc2 := stgC hc1 z
    have hz2 : va_up C1 137 (aL cs 1 z) 137 = aL cs 1 z := va_up_self _ _ _
    refine ⟨_, CR_of (c_Mo_power hT hm2.2.1.1 hI h1 h2 h3 h4 hm.2.2.2 hok2) hm2.1.symm, ?_⟩
    have hE : powP pr inv (M a.toNat) n.toNat (M d.toNat) = rsd pr inv (M a.toNat) n.toNat (M d.toNat) := pow_eq hr.1 hI (hok2 a.toNat (by omega)) (hok2 d.toNat (by omega)) (by rw [hGM d.toNat (by omega)] at r2; exact r2.2) (by omega)
    rw [hGM a.toNat (by omega), hGM d.toNat (by omega)] at r3
    rw [hGM d.toNat (by omega)] at r2
    rintro y C2 (⟨a1, _, _⟩ | ⟨_, a1, _, _⟩ | ⟨a1, a2, a3, _, M1, a4, a5, a6⟩)
    · rw [outF_in r1.1, outF_in r1.2.1, outF_in r1.2.2] at a1; omega
    · omega
    · refine ⟨endR hc2 hm2 hz2 hr.1 hr.2.2 a5 a4 (fun q q1 q2 => (a6 q (by omega)).trans (va_up_ne _ _ (by omega))) (fun q q1 => (a6 q (by omega)).trans (up_rel hGM (by rw [hGM a.toNat (by omega), hGM d.toNat (by omega)]; exact hE.symm) q q1)), ?_⟩
      rw [a3, r3, hE]
  · rintro E C1 ⟨e1, e2⟩
    have e1 : C1 = C := e1.trans e.symm
    rw [e1]
    rcases e2 with ⟨rfl, b1⟩ | ⟨rfl, b1, b2⟩
    · refine ⟨1, .inl ⟨rfl, rfl⟩, ⟨_, MOI_f hm⟩, _, CR_of (c_Mo_power hT hm.2.1.1 hI h1 h2 h3 h4 hm.2.2.2 hok2) hm.1.symm, ?_⟩
      rintro y C2 (⟨_, _, a4⟩ | ⟨a1, _⟩ | ⟨a1, _⟩)
      · exact ⟨_, endR hc hm ho hr.1 hr.2.2 hm.2.2.2 a4 (fun _ _ _ => rfl) hr.2.1⟩
      · rw [outF_in a1.1, outF_in a1.2.1, outF_in a1.2.2] at b1; omega
      · rw [outF_in a1.1, outF_in a1.2.1, outF_in a1.2.2] at b1; omega
    · rw [hGM d.toNat (by omega)] at b2
      refine ⟨2, .inr ⟨rfl, rfl⟩, ⟨_, MOI_f hm⟩, _, CR_of (c_Mo_power hT hm.2.1.1 hI h1 h2 h3 h4 hm.2.2.2 hok2) hm.1.symm, ?_⟩
      rintro y C2 (⟨a1, _⟩ | ⟨_, _, _, a4⟩ | ⟨_, a1, _⟩)
      · rw [outF_in b1.1, outF_in b1.2.1, outF_in b1.2.2] at a1; omega
      · exact ⟨_, endR hc hm ho hr.1 hr.2.2 hm.2.2.2 a4 (fun _ _ _ => rfl) hr.2.1⟩
      · omega
theorem o_join {l : Launch} {D : va_G} {cs : Nat → ClassId} {A : Nat → Prop} {ad : Nat → Nat} {T : Nat} {th : Int} {C : Nat → va_E} (hst : l.stackTraces = false) (hT : 213 ≤ T) (h : LIt cs ad th C) {t op a b : Int} (h1 : rg t) (h2 : rg op) (h3 : rg a) (h4 : rg b) : OPC l y_Ff_join ws_Ff_join { frames := 7, cells := 4, slots := 24, locals := 123 } 4 y_Mo_join ws_Mo_join { frames := 3, cells := 0, slots := 0, locals := 71 } [.int (iI (t)), .int (iI (op)), .int (iI (a)), .int (iI (b))] (fun E k => (E = xNSE ∧ k = 1) ∨ (E = xIAE ∧ k = 2) ∨ (E = xARE ∧ k = 3)) D cs A ad T C := by
  obtain ⟨ov, pr, inv, K, KR, Rg, M, hc, hm, hr, ho⟩ := h
  obtain ⟨G, ph, lo, hi, e, hcl, hg⟩ := id hc
  obtain ⟨hI, hok, hK24, hKo, hC122⟩ := CLI_f hc
  have hok2 : ∀ r, r < 16 → okp pr 25 (M r) := fun r hr2 => by rw [hr.2.1 r hr2]; exact hok r hr2
  have hok3 : ∀ r, r < 16 → okp pr 50 (M r) := fun r hr2 => (hok2 r hr2).mono (by omega)
  have hGM : ∀ r, r < 16 → G (21 + r) = M r := fun r hr2 => (hg r hr2).trans (hr.2.1 r hr2).symm
  refine ⟨_, _, FXi_e (c_Ff_join hst (by omega) hcl h1 h2 h3 h4) e.symm, ?_, ?_⟩
  · rintro x C1 ⟨r1, r2, r3, r4, r5, r6, r9⟩
    obtain ⟨hc1, hf1⟩ := CLI_of r9
    refine ⟨⟨ov, (hf1 137 (by omega)).trans ho⟩, ⟨_, (hf1 132 (by omega)).trans (MOI_f hm)⟩, fun z => ?_⟩
    have hm2 := stg hm hf1 z
    have hc2 := stgC hc1 z
    have hz2 : va_up C1 137 (aL cs 1 z) 137 = aL cs 1 z := va_up_self _ _ _
    refine ⟨_, CR_of (c_Mo_join hT hm2.2.1.1 hI h1 h2 h3 h4 hm.2.2.2 hok2) hm2.1.symm, ?_⟩
    have hdp : op = 2 → dg 300 (prd pr (M a.toNat) (M b.toNat)) ≤ 24 := fun h9 => by
      have h8 := r4 h9
      rw [hGM a.toNat (by omega), hGM b.toNat (by omega)] at h8
      rw [prd_deg hr.1 (hok2 a.toNat (by omega)) (hok2 b.toNat (by omega))]
      split <;> omega
    rw [hGM b.toNat (by omega)] at r3
    rw [hGM a.toNat (by omega), hGM b.toNat (by omega)] at r5
    rintro y C2 (⟨a1, _, _⟩ | ⟨_, a1, _, _⟩ | ⟨_, a1, a2, _⟩ | ⟨a1, _, _, _, a3, _, M1, a4, a5, a6⟩)
    · rw [outF_in r1.1, outF_in r1.2.1, outF_in r1.2.2] at a1; omega
    · omega
    · have := hdp a1; omega
    · refine ⟨endR hc2 hm2 hz2 hr.1 hr.2.2 a5 a4 (fun q q1 q2 => (a6 q (by omega)).trans (va_up_ne _ _ (by omega))) (fun q q1 => (a6 q (by omega)).trans (up_rel hGM (by rw [hGM a.toNat (by omega), hGM b.toNat (by omega)]) q q1)), ?_⟩
      rw [a3, r5]
  · rintro E C1 ⟨e1, e2⟩
    have e1 : C1 = C := e1.trans e.symm
    rw [e1]
    rcases e2 with ⟨rfl, b1⟩ | ⟨rfl, b1, b2⟩ | ⟨rfl, b1, b2, b3⟩
    · refine ⟨1, .inl ⟨rfl, rfl⟩, ⟨_, MOI_f hm⟩, _, CR_of (c_Mo_join hT hm.2.1.1 hI h1 h2 h3 h4 hm.2.2.2 hok2) hm.1.symm, ?_⟩
      rintro y C2 (⟨_, _, a4⟩ | ⟨a1, _⟩ | ⟨a1, _⟩ | ⟨a1, _⟩)
      · exact ⟨_, endR hc hm ho hr.1 hr.2.2 hm.2.2.2 a4 (fun _ _ _ => rfl) hr.2.1⟩
      · rw [outF_in a1.1, outF_in a1.2.1, outF_in a1.2.2] at b1; omega
      · rw [outF_in a1.1, outF_in a1.2.1, outF_in a1.2.2] at b1; omega
      · rw [outF_in a1.1, outF_in a1.2.1, outF_in a1.2.2] at b1; omega
    · rw [hGM b.toNat (by omega)] at b2
      refine ⟨2, .inr (.inl ⟨rfl, rfl⟩), ⟨_, MOI_f hm⟩, _, CR_of (c_Mo_join hT hm.2.1.1 hI h1 h2 h3 h4 hm.2.2.2 hok2) hm.1.symm, ?_⟩
      rintro y C2 (⟨a1, _⟩ | ⟨_, _, _, a4⟩ | ⟨_, a1, _⟩ | ⟨_, a1, a2, _⟩)
      · rw [outF_in b1.1, outF_in b1.2.1, outF_in b1.2.2] at a1; omega
      · exact ⟨_, endR hc hm ho hr.1 hr.2.2 hm.2.2.2 a4 (fun _ _ _ => rfl) hr.2.1⟩
      · omega
      · omega
    · rw [hGM a.toNat (by omega), hGM b.toNat (by omega)] at b3
      have hdp : dg 300 (prd pr (M a.toNat) (M b.toNat)) = dg 300 (M a.toNat) + dg 300 (M b.toNat) := by
        have q1 := dg_lt 300 (M a.toNat)
        have q2 := (hok2 a.toNat (by omega)).ok (by have := hI.1; omega) |>.dlt 300
        have q3 := (hok2 b.toNat (by omega)).ok (by have := hI.1; omega) |>.dlt 300
        rw [prd_deg hr.1 (hok2 a.toNat (by omega)) (hok2 b.toNat (by omega)), if_neg (by omega)]
      refine ⟨3, .inr (.inr ⟨rfl, rfl⟩), ⟨_, MOI_f hm⟩, _, CR_of (c_Mo_join hT hm.2.1.1 hI h1 h2 h3 h4 hm.2.2.2 hok2) hm.1.symm, ?_⟩
      rintro y C2 (⟨a1, _⟩ | ⟨_, a1, _⟩ | ⟨_, _, _, _, M1, a4, a5, a6⟩ | ⟨_, _, _, a1, _⟩)
      · rw [outF_in b1.1, outF_in b1.2.1, outF_in b1.2.2] at a1; omega
      · omega
      · exact ⟨_, endR hc hm ho hr.1 hr.2.2 a5 a4 (fun q q1 q2 => a6 q (by omega)) (fun q q1 => (a6 q (by omega)).trans (hr.2.1 q q1))⟩
      · have := a1 b2; omega
