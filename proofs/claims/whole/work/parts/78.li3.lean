theorem MOI_B {cs : Nat → ClassId} {ad : Nat → Nat} {th pr t : Int} {KR KR' : KS} {M M1 : Nat → Nat → Int} {C C' B1 : Nat → va_E} (h : MOI cs ad th pr KR M C) (e : C' = mkR cs M1 B1) (hk : moK cs ad t pr KR' M1 B1) (hW : WR M1) (hf : ∀ i, i ≠ 132 → i ≠ 135 → B1 i = C i) : MOI cs ad t pr KR' M1 C' ∧ (∀ i, i < 132 → C' i = C i) ∧ C' 137 = C 137 := by
  obtain ⟨_, _, ⟨k0, pm, Fq, q1, q2, q3, q4⟩, _⟩ := h
  obtain ⟨⟨m1, m2, m3⟩, m4, m5⟩ := hk
  have hg : ∀ i, i < 138 ∨ 188 ≤ i → C' i = B1 i := fun i hi => by rw [e, mkR_o hi]
  refine ⟨⟨mkR_self e, ⟨⟨(hg 132 (by omega)).trans m1, (hg 133 (by omega)).trans m2, (hg 134 (by omega)).trans m3⟩, (hg 135 (by omega)).trans m4, m5⟩, ⟨k0, pm, Fq, q1, q2, ((hg 136 (by omega)).trans (hf 136 (by omega) (by omega))).trans q3, fun i hi => ?_⟩, hW⟩, fun i hi => (hg i (by omega)).trans (hf i (by omega) (by omega)), (hg 137 (by omega)).trans (hf 137 (by omega) (by omega))⟩
  obtain ⟨G, g1, g2⟩ := q4 i hi
  exact ⟨G, ((hg (188 + pm i) (by omega)).trans (hf (188 + pm i) (by omega) (by omega))).trans g1, g2⟩
theorem MOI_E {cs : Nat → ClassId} {ad : Nat → Nat} {th pr t : Int} {KR : KS} {M M1 : Nat → Nat → Int} {C C' B1 : Nat → va_E} {k' : Nat} {pm' : Nat → Nat} {F' : Nat → Nat → Int} (h : MOI cs ad th pr KR M C) (e : C' = mkR cs M1 B1) (hk : moO cs ad t pr ((KR.1 : Nat) : Int) B1) (hW : WR M1) (h16 : ∀ r, 16 ≤ r → r < 41 → M1 r = M r) (hq : eqV cs ad k' pm' F' B1) (hf : ∀ q, q ≠ 132 → q ≠ 136 → q < 188 ∨ 213 ≤ q → B1 q = C q) : MOI cs ad t pr KR M1 C' ∧ (∀ i, i < 132 → C' i = C i) ∧ C' 137 = C 137 := by
  obtain ⟨_, ⟨_, m4, m5⟩, _, _⟩ := h
  obtain ⟨m1, m2, m3⟩ := hk
  obtain ⟨q1, q2, q3, q4⟩ := hq
  have hg : ∀ i, i < 138 ∨ 188 ≤ i → C' i = B1 i := fun i hi => by rw [e, mkR_o hi]
  refine ⟨⟨mkR_self e, ⟨⟨(hg 132 (by omega)).trans m1, (hg 133 (by omega)).trans m2, (hg 134 (by omega)).trans m3⟩, ((hg 135 (by omega)).trans (hf 135 (by omega) (by omega) (by omega))).trans m4, fun i hi => (h16 (16 + i) (by omega) (by omega)).trans (m5 i hi)⟩, ⟨k', pm', F', q1, q2, (hg 136 (by omega)).trans q3, fun i hi => ?_⟩, hW⟩, fun i hi => (hg i (by omega)).trans (hf i (by omega) (by omega) (by omega)), (hg 137 (by omega)).trans (hf 137 (by omega) (by omega) (by omega))⟩
  obtain ⟨G, g1, g2⟩ := q4 i hi
  exact ⟨G, (hg (188 + pm' i) (by omega)).trans g1, g2⟩
theorem WR_clr {M : Nat → Nat → Int} (h : WR M) : WR (clrM M) := fun r hr => by
  unfold clrM
  split
  · exact ⟨fun _ => ⟨Int.le_refl 0, show (0 : Int) < 13 by decide⟩, fun _ _ => rfl⟩
  · exact h r hr
theorem o_field {l : Launch} {D : va_G} {cs : Nat → ClassId} {A : Nat → Prop} {ad : Nat → Nat} {T : Nat} {th : Int} {C : Nat → va_E} (hst : l.stackTraces = false) (hT : 213 ≤ T) (h : LIt cs ad th C) {q : Int} (h1 : rg q) : OPC l y_Ff_field ws_Ff_field { frames := 6, cells := 1, slots := 6, locals := 90 } 1 y_Mo_field ws_Mo_field { frames := 1, cells := 0, slots := 0, locals := 22 } [.int (iI (q))] (fun E k => E = xIAE ∧ k = 1) D cs A ad T C := by
  obtain ⟨ov, pr, inv, K, KR, Rg, M, hc, hm, hr, ho⟩ := h
  obtain ⟨G, ph, lo, hi, e, hcl, hg⟩ := id hc
  obtain ⟨hI, hok, hK24, hKo, hC122⟩ := CLI_f hc
  have hok2 : ∀ r, r < 16 → okp pr 25 (M r) := fun r hr2 => by rw [hr.2.1 r hr2]; exact hok r hr2
  have hok3 : ∀ r, r < 16 → okp pr 50 (M r) := fun r hr2 => (hok2 r hr2).mono (by omega)
  have hGM : ∀ r, r < 16 → G (21 + r) = M r := fun r hr2 => (hg r hr2).trans (hr.2.1 r hr2).symm
  refine ⟨_, _, FXi_e (c_Ff_field hst (by omega) hcl h1) e.symm, ?_, ?_⟩
  · rintro x C1 ⟨r1, r2, inv', r9⟩
    obtain ⟨hc1, hf1⟩ := CLI_of r9
    refine ⟨⟨ov, (hf1 137 (by omega)).trans ho⟩, ⟨_, (hf1 132 (by omega)).trans (MOI_f hm)⟩, fun z => ?_⟩
    have hm2 := stg hm hf1 z
    have hc2 := stgC hc1 z
    have hz2 : va_up C1 137 (aL cs 1 z) 137 = aL cs 1 z := va_up_self _ _ _
    refine ⟨_, CR_of (c_Mo_field hT hm2.2.1.1 h1 hm.2.2.2) hm2.1.symm, ?_⟩
    rintro y C2 (⟨a1, _, _⟩ | ⟨_, a3, a4⟩)
    · omega
    · obtain ⟨b1, b2, b3⟩ := MOI_mB hm2 (n := 0) a4 (fun i hi => by unfold clrM; rw [if_neg (by omega)]) (WR_clr hm.2.2.2)
      refine ⟨LI_mk (CLI_c hc2 b2) b1 ⟨r1, fun r hr2 => by unfold clrM; rw [if_pos hr2], rfl, fun i hi => absurd hi (Nat.not_lt_zero i)⟩ (b3.trans hz2), ?_⟩
      rw [a3, r2]
  · rintro E C1 ⟨e1, rfl, b1⟩
    have e1 : C1 = C := e1.trans e.symm
    rw [e1]
    refine ⟨1, ⟨rfl, rfl⟩, ⟨_, MOI_f hm⟩, _, CR_of (c_Mo_field hT hm.2.1.1 h1 hm.2.2.2) hm.1.symm, ?_⟩
    rintro y C2 (⟨_, _, a4⟩ | ⟨a1, _⟩)
    · exact ⟨_, endR hc hm ho hr.1 hr.2.2 hm.2.2.2 a4 (fun _ _ _ => rfl) hr.2.1⟩
    · omega
theorem o_piece {l : Launch} {D : va_G} {cs : Nat → ClassId} {A : Nat → Prop} {ad : Nat → Nat} {T : Nat} {th : Int} {C : Nat → va_E} (hst : l.stackTraces = false) (hT : 213 ≤ T) (h : LIt cs ad th C) {t i : Int} (h1 : rg t) (h2 : rg i) : OPC l y_Ff_piece ws_Ff_piece { frames := 7, cells := 2, slots := 12, locals := 111 } 2 y_Mo_piece ws_Mo_piece { frames := 2, cells := 0, slots := 0, locals := 43 } [.int (iI (t)), .int (iI (i))] (fun E k => E = xNSE ∧ k = 1) D cs A ad T C := by
  obtain ⟨ov, pr, inv, K, KR, Rg, M, hc, hm, hr, ho⟩ := h
  obtain ⟨G, ph, lo, hi, e, hcl, hg⟩ := id hc
  obtain ⟨hI, hok, hK24, hKo, hC122⟩ := CLI_f hc
  have hok2 : ∀ r, r < 16 → okp pr 25 (M r) := fun r hr2 => by rw [hr.2.1 r hr2]; exact hok r hr2
  have hok3 : ∀ r, r < 16 → okp pr 50 (M r) := fun r hr2 => (hok2 r hr2).mono (by omega)
  have hGM : ∀ r, r < 16 → G (21 + r) = M r := fun r hr2 => (hg r hr2).trans (hr.2.1 r hr2).symm
  refine ⟨_, _, FXi_e (c_Ff_piece hst (by omega) hcl h1 h2) e.symm, ?_, ?_⟩
  · rintro x C1 ⟨r1, r2, r3, r9⟩
    obtain ⟨hc1, hf1⟩ := CLI_of r9
    refine ⟨⟨ov, (hf1 137 (by omega)).trans ho⟩, ⟨_, (hf1 132 (by omega)).trans (MOI_f hm)⟩, fun z => ?_⟩
    have hm2 := stg hm hf1 z
    have hc2 := stgC hc1 z
    have hz2 : va_up C1 137 (aL cs 1 z) 137 = aL cs 1 z := va_up_self _ _ _
    refine ⟨_, CR_of (c_Mo_piece hT hm2.2.1 h1 h2 (by have := hr.2.2.1; omega) hm.2.2.2) hm2.1.symm, ?_⟩
    have hKi := hr.2.2.2 i.toNat (by omega)
    have hkk := hr.2.2.1
    have hoi := hKo i.toNat (by omega)
    have hpr := hI.1
    rintro y C2 (⟨a1, _, _⟩ | ⟨_, a1, _, _⟩ | ⟨_, _, a3, a4⟩)
    · rw [outF_in r1] at a1; omega
    · omega
    · refine ⟨endR hc2 hm2 hz2 hr.1 hr.2.2 (hm.2.2.2.up (by rw [hKi.1]; exact (hoi.mono (by omega)).ok (by omega))) a4 (fun q q1 q2 => va_up_ne _ _ (by omega)) (up_rel hGM hKi.1), ?_⟩
      rw [a3, r3, hKi.2]
  · rintro E C1 ⟨e1, rfl, b1⟩
    have e1 : C1 = C := e1.trans e.symm
    rw [e1]
    have hkk := hr.2.2.1
    refine ⟨1, ⟨rfl, rfl⟩, ⟨_, MOI_f hm⟩, _, CR_of (c_Mo_piece hT hm.2.1 h1 h2 (by have := hr.2.2.1; omega) hm.2.2.2) hm.1.symm, ?_⟩
    rintro y C2 (⟨_, _, a4⟩ | ⟨_, _, _, a4⟩ | ⟨a1, a2, _⟩)
    · exact ⟨_, endR hc hm ho hr.1 hr.2.2 hm.2.2.2 a4 (fun _ _ _ => rfl) hr.2.1⟩
    · exact ⟨_, endR hc hm ho hr.1 hr.2.2 hm.2.2.2 a4 (fun _ _ _ => rfl) hr.2.1⟩
    · rw [outF_in a1] at b1; omega
theorem o_factor {l : Launch} {D : va_G} {cs : Nat → ClassId} {A : Nat → Prop} {ad : Nat → Nat} {T : Nat} {th : Int} {C : Nat → va_E} (hst : l.stackTraces = false) (hT : 213 ≤ T) (h : LIt cs ad th C) {a : Int} (h1 : rg a) : OPC l y_Ff_factor ws_Ff_factor { frames := 7, cells := 3, slots := 18, locals := 172 } 3 y_Mo_factor ws_Mo_factor { frames := 4, cells := 0, slots := 0, locals := 94 } [.int (iI (a))] (fun E k => (E = xNSE ∧ k = 1) ∨ (E = xIAE ∧ k = 2)) D cs A ad T C := by
  obtain ⟨ov, pr, inv, K, KR, Rg, M, hc, hm, hr, ho⟩ := h
  obtain ⟨G, ph, lo, hi, e, hcl, hg⟩ := id hc
  obtain ⟨hI, hok, hK24, hKo, hC122⟩ := CLI_f hc
  have hok2 : ∀ r, r < 16 → okp pr 25 (M r) := fun r hr2 => by rw [hr.2.1 r hr2]; exact hok r hr2
  have hok3 : ∀ r, r < 16 → okp pr 50 (M r) := fun r hr2 => (hok2 r hr2).mono (by omega)
  have hGM : ∀ r, r < 16 → G (21 + r) = M r := fun r hr2 => (hg r hr2).trans (hr.2.1 r hr2).symm
  refine ⟨_, _, FXi_e (c_Ff_factor hst (by omega) hcl hr.1 h1) e.symm, ?_, ?_⟩
  · rintro x C1 ⟨r1, r2, r3, r9⟩
    obtain ⟨hc1, hf1⟩ := CLI_of r9
    refine ⟨⟨ov, (hf1 137 (by omega)).trans ho⟩, ⟨_, (hf1 132 (by omega)).trans (MOI_f hm)⟩, fun z => ?_⟩
    have hm2 := stg hm hf1 z
    have hc2 := stgC hc1 z
    have hz2 : va_up C1 137 (aL cs 1 z) 137 = aL cs 1 z := va_up_self _ _ _
    refine ⟨_, CR_of (c_Mo_factor hT hm2.2.1 hI h1 hm.2.2.2 hok2) hm2.1.symm, ?_⟩
    have hdd : 0 ≤ dg 300 (M a.toNat) := by rw [hGM a.toNat (by omega)] at r2; exact r2.1
    have hE := fac_eq hr.1 hI (hok2 a.toNat (by omega)) hdd K KR
    rw [hGM a.toNat (by omega)] at r2 r3 hc2
    rintro y C2 (⟨a1, _, _⟩ | ⟨_, a1, _, _⟩ | ⟨_, _, M1, B1, a3, a4, a5, a6, a7, a8⟩)
    · rw [outF_in r1] at a1; omega
    · omega
    · obtain ⟨b1, b2, b3⟩ := MOI_B hm2 a4 a5 a6 a8
      refine ⟨LI_mk (CLI_c hc2 b2) b1 ⟨hr.1, fun r hr2 => (a7 r hr2).trans (hGM r hr2).symm, hE.1.symm, fun i hi => ⟨(hE.2 i hi).1.symm, (hE.2 i hi).2.symm⟩⟩ (b3.trans hz2), ?_⟩
      rw [a3, r3, hE.1]
  · rintro E C1 ⟨e1, e2⟩
    have e1 : C1 = C := e1.trans e.symm
    rw [e1]
    rcases e2 with ⟨rfl, b1⟩ | ⟨rfl, b1, b2⟩
    · refine ⟨1, .inl ⟨rfl, rfl⟩, ⟨_, MOI_f hm⟩, _, CR_of (c_Mo_factor hT hm.2.1 hI h1 hm.2.2.2 hok2) hm.1.symm, ?_⟩
      rintro y C2 (⟨_, _, a4⟩ | ⟨a1, _⟩ | ⟨a1, _⟩)
      · exact ⟨_, endR hc hm ho hr.1 hr.2.2 hm.2.2.2 a4 (fun _ _ _ => rfl) hr.2.1⟩
      · rw [outF_in a1] at b1; omega
      · rw [outF_in a1] at b1; omega
    · rw [hGM a.toNat (by omega)] at b2
      refine ⟨2, .inr ⟨rfl, rfl⟩, ⟨_, MOI_f hm⟩, _, CR_of (c_Mo_factor hT hm.2.1 hI h1 hm.2.2.2 hok2) hm.1.symm, ?_⟩
      rintro y C2 (⟨a1, _⟩ | ⟨_, _, _, a4⟩ | ⟨_, a1, _⟩)
      · rw [outF_in b1] at a1; omega
      · exact ⟨_, endR hc hm ho hr.1 hr.2.2 hm.2.2.2 a4 (fun _ _ _ => rfl) hr.2.1⟩
      · omega
theorem o_inverse {l : Launch} {D : va_G} {cs : Nat → ClassId} {A : Nat → Prop} {ad : Nat → Nat} {T : Nat} {th : Int} {C : Nat → va_E} (hst : l.stackTraces = false) (hT : 213 ≤ T) (h : LIt cs ad th C) {t a d : Int} (h1 : rg t) (h2 : rg a) (h3 : rg d) : OPC l y_Ff_inverse ws_Ff_inverse { frames := 7, cells := 5, slots := 30, locals := 111 } 5 y_Mo_inverse ws_Mo_inverse { frames := 2, cells := 0, slots := 0, locals := 49 } [.int (iI (t)), .int (iI (a)), .int (iI (d))] (fun E k => (E = xNSE ∧ k = 1) ∨ (E = xIAE ∧ k = 2) ∨ (E = xISE ∧ k = 3)) D cs A ad T C := by
  obtain ⟨ov, pr, inv, K, KR, Rg, M, hc, hm, hr, ho⟩ := h
  obtain ⟨G, ph, lo, hi, e, hcl, hg⟩ := id hc
  obtain ⟨hI, hok, hK24, hKo, hC122⟩ := CLI_f hc
  have hok2 : ∀ r, r < 16 → okp pr 25 (M r) := fun r hr2 => by rw [hr.2.1 r hr2]; exact hok r hr2
  have hok3 : ∀ r, r < 16 → okp pr 50 (M r) := fun r hr2 => (hok2 r hr2).mono (by omega)
  have hGM : ∀ r, r < 16 → G (21 + r) = M r := fun r hr2 => (hg r hr2).trans (hr.2.1 r hr2).symm
  refine ⟨_, _, FXi_e (c_Ff_inverse hst (by omega) hcl h1 h2 h3) e.symm, ?_, ?_⟩
  · rintro x C1 ⟨r1, r2, r3, r4, r5, r9⟩
    obtain ⟨hc1, hf1⟩ := CLI_of r9
    refine ⟨⟨ov, (hf1 137 (by omega)).trans ho⟩, ⟨_, (hf1 132 (by omega)).trans (MOI_f hm)⟩, fun z => ?_⟩
    have hm2 := stg hm hf1 z
    have hc2 := stgC hc1 z
    have hz2 : va_up C1 137 (aL cs 1 z) 137 = aL cs 1 z := va_up_self _ _ _
    refine ⟨_, CR_ofE (c_Mo_inverse hT hm2.2.1.1 hI hm2.2.2.1.choose_spec.choose_spec.choose_spec h1 h2 h3 hm.2.2.2 hok2) hm2.1.symm, ?_⟩
    have hd2 : 1 ≤ dg 300 (M d.toNat) := by rw [hGM d.toNat (by omega)] at r2; exact r2
    have hE := inv_eq hr.1 hI (hok2 a.toNat (by omega)) (hok2 d.toNat (by omega)) hd2
    rw [hGM a.toNat (by omega), hGM d.toNat (by omega)] at r3 r4
    rcases hE with ⟨hE, _⟩ | ⟨_, hE⟩
    · omega
    rintro y C2 (⟨a1, _, _⟩ | ⟨_, a1, _, _⟩ | ⟨_, _, a1, _⟩ | ⟨_, _, Z, a1, _, a3, M1, B1, pm', F', k', a4, a5, a6, a7, a8, a9⟩)
    · rw [outF_in r1.1, outF_in r1.2.1, outF_in r1.2.2] at a1; omega
    · omega
    · rw [hE] at a1; cases a1
    · rw [hE] at a1
      have eZ := Option.some.inj a1
      obtain ⟨b1, b2, b3⟩ := MOI_E hm2 a4 a7 a5 (fun r q1 q2 => (a6 r q2).trans (va_up_ne _ _ (by omega))) a8 a9
      refine ⟨LI_mk (CLI_c hc2 b2) b1 ⟨hr.1, fun q q1 => (a6 q (by omega)).trans (up_rel hGM (by rw [hGM a.toNat (by omega), hGM d.toNat (by omega)]; exact eZ.symm) q q1), hr.2.2⟩ (b3.trans hz2), ?_⟩
      rw [a3, r4, eZ]
  · rintro E C1 e2
    rcases e2 with ⟨e1, e2⟩ | ⟨rfl, b1, b2, b3, r9⟩
    · have e1 : C1 = C := e1.trans e.symm
      rw [e1]
      rcases e2 with ⟨rfl, b1⟩ | ⟨rfl, b1, b2⟩
      · refine ⟨1, .inl ⟨rfl, rfl⟩, ⟨_, MOI_f hm⟩, _, CR_ofE (c_Mo_inverse hT hm.2.1.1 hI hm.2.2.1.choose_spec.choose_spec.choose_spec h1 h2 h3 hm.2.2.2 hok2) hm.1.symm, ?_⟩
        rintro y C2 (⟨_, _, a4⟩ | ⟨a1, _⟩ | ⟨a1, _⟩ | ⟨a1, _⟩)
        · exact ⟨_, endR hc hm ho hr.1 hr.2.2 hm.2.2.2 a4 (fun _ _ _ => rfl) hr.2.1⟩
        · rw [outF_in a1.1, outF_in a1.2.1, outF_in a1.2.2] at b1; omega
        · rw [outF_in a1.1, outF_in a1.2.1, outF_in a1.2.2] at b1; omega
        · rw [outF_in a1.1, outF_in a1.2.1, outF_in a1.2.2] at b1; omega
      · rw [hGM d.toNat (by omega)] at b2
        refine ⟨2, .inr (.inl ⟨rfl, rfl⟩), ⟨_, MOI_f hm⟩, _, CR_ofE (c_Mo_inverse hT hm.2.1.1 hI hm.2.2.1.choose_spec.choose_spec.choose_spec h1 h2 h3 hm.2.2.2 hok2) hm.1.symm, ?_⟩
        rintro y C2 (⟨a1, _⟩ | ⟨_, _, _, a4⟩ | ⟨_, a1, _⟩ | ⟨_, a1, _⟩)
        · rw [outF_in b1.1, outF_in b1.2.1, outF_in b1.2.2] at a1; omega
        · exact ⟨_, endR hc hm ho hr.1 hr.2.2 hm.2.2.2 a4 (fun _ _ _ => rfl) hr.2.1⟩
        · omega
        · omega
    · obtain ⟨hc1, hf1⟩ := CLI_of r9
      have hm2 : MOI cs ad th pr KR M C1 := MOI_c hm (fun i q1 _ _ => hf1 i q1)
      have hz2 : C1 137 = aL cs 1 ov := (hf1 137 (by omega)).trans ho
      rw [hGM d.toNat (by omega)] at b2
      rw [hGM a.toNat (by omega), hGM d.toNat (by omega)] at b3
      have hE := inv_eq hr.1 hI (hok2 a.toNat (by omega)) (hok2 d.toNat (by omega)) b2
      rcases hE with ⟨_, hE⟩ | ⟨hE, _⟩
      · refine ⟨3, .inr (.inr ⟨rfl, rfl⟩), ⟨_, MOI_f hm2⟩, _, CR_ofE (c_Mo_inverse hT hm2.2.1.1 hI hm2.2.2.1.choose_spec.choose_spec.choose_spec h1 h2 h3 hm.2.2.2 hok2) hm2.1.symm, ?_⟩
        rintro y C2 (⟨a1, _⟩ | ⟨_, a1, _⟩ | ⟨_, _, _, _, M1, B1, pm', F', k', a4, a5, a6, a7, a8, a9⟩ | ⟨_, _, Z, a1, _⟩)
        · rw [outF_in b1.1, outF_in b1.2.1, outF_in b1.2.2] at a1; omega
        · omega
        · obtain ⟨c1, c2, c3⟩ := MOI_E hm2 a4 a7 a5 (fun r q1 q2 => a6 r q2) a8 a9
          exact ⟨_, LI_mk (CLI_c hc1 c2) c1 ⟨hr.1, fun q q1 => (a6 q (by omega)).trans (hGM q q1).symm, hr.2.2⟩ (c3.trans hz2)⟩
        · rw [hE] at a1; cases a1
      · omega
theorem o_count {l : Launch} {D : va_G} {cs : Nat → ClassId} {A : Nat → Prop} {ad : Nat → Nat} {T : Nat} {th : Int} {C : Nat → va_E} (hT : 213 ≤ T) (h : LIt cs ad th C) {x : Int} (h1 : rg x) : ∃ v, CR l y_Ff_count ws_Ff_count { frames := 0, cells := 0, slots := 0, locals := 0 } D cs A ad T [.ref (ad 122), .int (iI x)] C (fun r C' => r = iI v ∧ C' = C) ∧ ∃ R, CR l y_Mo_count ws_Mo_count { frames := 0, cells := 0, slots := 0, locals := 0 } D cs A ad T [.ref (ad 132), .int (iI x)] C R ∧ ∀ r C', R r C' → r = iI v ∧ LIt cs ad 0 C' := by
  obtain ⟨ov, pr, inv, K, KR, Rg, M, hc, hm, hr, ho⟩ := h
  obtain ⟨G, ph, lo, hi, e, hcl, hg⟩ := id hc
  refine ⟨if x = 0 then pr else if x = 1 then ((K.1 : Nat) : Int) else -1, ?_, ?_⟩
  · have := c_Ff_count (l := l) (D := D) (A := A) (T := T) (by omega) hcl h1
    rw [← e] at this
    exact CR_of this rfl
  · refine ⟨_, CR_of (c_Mo_count (l := l) (D := D) (A := A) hT hm.2.1.1 (M := M) h1) hm.1.symm, ?_⟩
    rintro r C' ⟨a1, a2⟩
    refine ⟨by rw [a1, hr.2.2.1], _, endR hc hm ho hr.1 hr.2.2 hm.2.2.2 a2 (fun _ _ _ => rfl) hr.2.1⟩
