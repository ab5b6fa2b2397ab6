/-! the places as they were made, and as the contracts number them -/
theorem arrV_c {cA : ClassId} {n : Nat} {F G : Nat → Value} (h : ∀ j, j < n → F j = G j) : arrV cA n F = arrV cA n G := by
  unfold arrV
  have e : (fun j : Fin n => F j.val) = (fun j : Fin n => G j.val) := funext (fun j => h j.val j.isLt)
  rw [e]
def atE (x y : va_E) : Prop := ∀ (D : va_G) (cl : List vw_C) (q : Nat) (H : Heap), va_at D cl (q, x) H → va_at D cl (q, y) H
theorem atE_e {x y : va_E} (h : x = y) : atE x y := by
  subst h
  exact fun _ _ _ _ h => h
theorem atE_q {c : ClassId} {n : Nat} {f g : Nat → Option Nat} (h : ∀ j, j < n → f j = g j) : atE (.inl (c, n, .inr (.inr (.inr (.inr f))))) (.inl (c, n, .inr (.inr (.inr (.inr g))))) := by
  intro D cl q H hh
  have e : vp_cell c (n, .inr (.inr (.inr (.inr f)))) = vp_cell c (n, .inr (.inr (.inr (.inr g)))) := by
    rw [vp_cell_q, vp_cell_q]
    exact arrV_c (fun j hj => by rw [h j hj])
  show H[q]? = some (vp_cell c (n, .inr (.inr (.inr (.inr g)))))
  rw [← e]
  exact hh
theorem Wd.re {D : va_G} {cs : Nat → ClassId} {A : Nat → Prop} {ad ad' : Nat → Nat} {T : Nat} {s : State} {C C' : Nat → va_E} {H : Heap} {locs : List Loc} (w : Wd D cs A ad T s C H locs) (pi : Nat → Nat) (h1 : ∀ i, i < T → pi i < T) (h2 : ∀ i j, i < T → j < T → pi i = pi j → i = j) (h3 : ∀ i, i < T → ad' i = ad (pi i)) (h4 : ∀ i, i < T → atE (C (pi i)) (C' i)) : Wd D cs A ad' T s C' H locs := by
  refine ⟨w.1, ⟨fun i j hi hj e => ?_, fun i hi => ?_⟩, w.2.2.1, fun k q hk => ?_, w.2.2.2.2⟩
  · rw [h3 i hi, h3 j hj] at e
    exact h2 i j hi hj (w.2.1.1 _ _ (h1 i hi) (h1 j hj) e)
  · rw [h3 i hi]
    exact w.2.1.2 _ (h1 i hi)
  · obtain ⟨hk1, rfl⟩ := vW_of hk
    rw [h3 k hk1]
    exact h4 k hk1 D classes _ H (w.2.2.2.1 (pi k) _ (vW_get (h1 k hk1)))
def piS (i : Nat) : Nat := if i < 14 then i + 3 else if i < 32 then i + 54 else if i < 38 then i + 57 else if i < 42 then i + 90 else if i < 74 then i + 54 else if i < 122 then i - 54 else if i = 122 then 0 else if i = 123 then 1 else if i = 124 then 2 else if i = 125 then 17 else if i = 126 then 18 else if i = 127 then 19 else if i = 128 then 86 else if i = 129 then 87 else if i = 130 then 88 else if i = 131 then 95 else if i < 134 then i else if i = 134 then 150 else if i = 135 then 176 else if i = 136 then 186 else if i = 137 then 212 else if i < 154 then i - 4 else if i < 179 then i - 3 else if i < 188 then i - 2 else i - 1
def sgS (j : Nat) : Nat := if j = 0 then 122 else if j = 1 then 123 else if j = 2 then 124 else if j < 17 then j - 3 else if j = 17 then 125 else if j = 18 then 126 else if j = 19 then 127 else if j < 68 then j + 54 else if j < 86 then j - 54 else if j = 86 then 128 else if j = 87 then 129 else if j = 88 then 130 else if j < 95 then j - 57 else if j = 95 then 131 else if j < 128 then j - 54 else if j < 132 then j - 90 else if j < 134 then j else if j < 150 then j + 4 else if j = 150 then 134 else if j < 176 then j + 3 else if j = 176 then 135 else if j < 186 then j + 2 else if j = 186 then 136 else if j < 212 then j + 1 else 137
theorem piS_all : ∀ i : Fin 213, piS i.val < 213 ∧ sgS (piS i.val) = i.val := by decide +kernel
theorem piS_lt (i : Nat) (h : i < 213) : piS i < 213 := (piS_all ⟨i, h⟩).1
theorem piS_in (i j : Nat) (hi : i < 213) (hj : j < 213) (e : piS i = piS j) : i = j := by
  have a := (piS_all ⟨i, hi⟩).2
  have b := (piS_all ⟨j, hj⟩).2
  have a : sgS (piS i) = i := a
  have b : sgS (piS j) = j := b
  rw [← a, ← b, e]
/-- the model's arrays of rows -/
def aGn (cs : Nat → ClassId) (n : Nat) (f : Nat → Option Nat) : va_E := .inl (cs 3, n, .inr (.inr (.inr (.inr f))))
def grV (cs : Nat → ClassId) (ad : Nat → Nat) (C : Nat → va_E) (arr base n m : Nat) : Prop := (∃ f, C arr = aGn cs n f ∧ ∀ k, k < n → f k = some (ad (base + k))) ∧ ∀ k, k < n → C (base + k) = aI cs m (fun _ => 0)
def moQ (cs : Nat → ClassId) (ad : Nat → Nat) (C : Nat → va_E) : Prop := C 132 = .inr (5, [.int (iI 0), .int (iI 2), .ref (ad 133), .ref (ad 150), .ref (ad 176), .int (iI 0), .ref (ad 177), .ref (ad 178), .ref (ad 179), .ref (ad 180), .ref (ad 181), .ref (ad 182), .ref (ad 183), .ref (ad 184), .ref (ad 185), .ref (ad 186)]) ∧ grV cs ad C 133 134 16 50 ∧ grV cs ad C 150 151 25 50 ∧ C 176 = aI cs 25 (fun _ => 0) ∧ (∀ k, k < 9 → C (177 + k) = aI cs 50 (fun _ => 0)) ∧ grV cs ad C 186 187 25 26
def ffQ (cs : Nat → ClassId) (ad' : Nat → Nat) (C' : Nat → va_E) : Prop := C' 0 = .inr (4, [.ref (ad' 1), .ref (ad' 17), .ref (ad' 86), .ref (ad' 95), .ref (ad' 128), .ref (ad' 130)]) ∧ arQ cs ad' C' ∧ cuQ cs ad' C' (ad' 1) ∧ osQ cs ad' C' (ad' 1) ∧ plV cs ad' C' 95 96 16 16 ∧ (C' 128 = poE (ad' 129) ∧ C' 129 = aI cs 25 (fun _ => 0)) ∧ (C' 130 = poE (ad' 131) ∧ C' 131 = aI cs 25 (fun _ => 0))
theorem ffQ_c {cs : Nat → ClassId} {ad1 ad2 : Nat → Nat} {C1 C2 : Nat → va_E} (h : ffQ cs ad1 C1) (h1 : ∀ j, j < 132 → ad2 j = ad1 j) (h2 : ∀ j, j < 132 → C2 j = C1 j) : ffQ cs ad2 C2 := by
  obtain ⟨a1, a2, a3, a4, a5, a6, a7⟩ := h
  refine ⟨?_, arQ_c a2 (fun j hj => h1 j (by omega)) (fun j _ hj => h2 j (by omega)), ?_, ?_, plV_c a5 (fun j hj => h1 j (by omega)) (h2 95 (by omega)) (fun j _ hj => h2 j (by omega)), ?_, ?_⟩
  · rw [h2 0 (by omega), a1, h1 1 (by omega), h1 17 (by omega), h1 86 (by omega), h1 95 (by omega), h1 128 (by omega), h1 130 (by omega)]
  · rw [h1 1 (by omega)]; exact cuQ_c a3 (fun j hj => h1 j (by omega)) (fun j _ hj => h2 j (by omega))
  · rw [h1 1 (by omega)]; exact osQ_c a4 (fun j hj => h1 j (by omega)) (fun j _ hj => h2 j (by omega))
  · rw [h2 128 (by omega), h2 129 (by omega), h1 129 (by omega)]; exact a6
  · rw [h2 130 (by omega), h2 131 (by omega), h1 131 (by omega)]; exact a7
def G0S (k : Nat) : Nat → Int := if k = 14 then oneP else if k = 15 then xP else if k = 18 then xP else fun _ => 0
theorem oneP_dg : dg 300 oneP = 0 := dg_eq (by omega) (by omega) (fun x hx => by unfold oneP; rw [if_pos (by omega)]; decide) (fun x hx _ => by unfold oneP; rw [if_neg (by omega)])
/-- the start, by the contracts' numbers -/
def CS (cs : Nat → ClassId) (ad : Nat → Nat) (inv : Nat → Int) (i : Nat) : va_E := if i < 122 then (if i % 2 = 0 then pE ad (i + 1) (dg 300 (G0S (i / 2))) else aI cs (wd (i / 2)) (G0S (i / 2))) else if i = 122 then .inr (4, ffF ad) else if i = 123 then .inr (1, arF ad 2) else if i = 124 then aI cs 13 inv else if i = 125 then .inr (2, cuF ad 0) else if i = 126 then aQ cs ad 24 (fun i => 37 + i) else if i = 127 then aI cs 24 (fun _ => 0) else if i = 128 then .inr (3, osF ad) else if i = 129 then aL cs 500 (fun _ => 0) else if i = 130 then aL cs 500 (fun _ => 0) else if i = 131 then aQ cs ad 16 (fun i => 21 + i) else if i = 132 then .inr (5, moF ad 0 2 0) else if i = 133 then aG cs ad 16 (fun i => 138 + i) else if i = 134 then aG cs ad 25 (fun i => 138 + (16 + i)) else if i = 135 then aI cs 25 (fun _ => 0) else if i = 136 then aG cs ad 25 (fun i => 188 + i) else if i = 137 then aL cs 1 (fun _ => 0) else if i < 188 then aI cs 50 (fun _ => 0) else aI cs 26 (fun _ => 0)
theorem CS_p {cs : Nat → ClassId} {ad : Nat → Nat} {inv : Nat → Int} {k : Nat} (hk : k < 61) : CS cs ad inv (2 * k) = pE ad (2 * k + 1) (dg 300 (G0S k)) ∧ CS cs ad inv (2 * k + 1) = aI cs (wd k) (G0S k) := by
  unfold CS
  rw [if_pos (by omega), if_pos (by omega), if_pos (by omega), if_neg (by omega), show 2 * k / 2 = k by omega, show (2 * k + 1) / 2 = k by omega]
  exact ⟨rfl, rfl⟩
theorem CS_LI {cs : Nat → ClassId} {ad : Nat → Nat} {inv : Nat → Int} (hI : invP 2 inv) : LIt cs ad 0 (CS cs ad inv) := by
  have hG : ∀ k, k ≠ 14 → k ≠ 15 → k ≠ 18 → G0S k = fun _ => 0 := fun k a b c => by unfold G0S; rw [if_neg a, if_neg b, if_neg c]
  have z13 : ∀ n, ok n (fun _ => 0) := fun n => ⟨fun _ => ⟨Int.le_refl 0, show (0 : Int) < 13 by decide⟩, fun _ _ => rfl⟩
  refine ⟨fun _ => 0, 2, inv, (0, fun _ _ => 0, fun _ => 0), (0, fun _ _ => 0, fun _ => 0), fun _ _ => 0, fun _ _ => 0, ⟨G0S, fun i => 37 + i, fun _ => 0, fun _ => 0, ?_, ⟨⟨rfl, rfl, hI⟩, ⟨rfl, rfl⟩, ⟨⟨rfl, rfl, rfl, Nat.zero_le _, fun i hi => ⟨by show 37 ≤ 37 + i; omega, by show 37 + i < 61; omega⟩, fun i j _ _ e => by have e : 37 + i = 37 + j := e; omega⟩, fun i hi => hG (37 + i) (by omega) (by omega) (by omega), fun i hi => absurd hi (Nat.not_lt_zero i)⟩, ⟨rfl, rfl, rfl, fun _ _ => ⟨by show lrg 0; decide, by show lrg 0; decide⟩⟩, ?_, fun r hr => ?_, rfl, rfl, rfl⟩, fun r hr => hG (21 + r) (by omega) (by omega) (by omega)⟩, ⟨?_, ⟨⟨rfl, rfl, rfl⟩, rfl, fun _ _ => rfl⟩, ⟨0, fun i => i, fun _ _ => 0, fun i hi => hi, fun i j _ _ e => e, rfl, fun i hi => ⟨fun _ => 0, ?_, fun h => absurd h (Nat.not_lt_zero i)⟩⟩, fun r hr => z13 50⟩, ⟨by decide, fun _ _ => rfl, rfl, fun i hi => absurd hi (Nat.not_lt_zero i)⟩, rfl⟩
  · funext i
    by_cases hi : i < 122
    · unfold mkV CS rV; rw [if_pos hi, if_pos hi]
    · unfold mkV; rw [if_neg hi]
  · intro j hj
    by_cases h1 : j = 14
    · subst h1; exact ⟨fun x => by show 0 ≤ oneP x ∧ oneP x < 13; unfold oneP; split <;> decide, fun x hx => by show oneP x = 0; unfold oneP; rw [if_neg (by unfold wd at hx; simp at hx; omega)]⟩
    by_cases h2 : j = 15
    · subst h2; exact ⟨fun x => by show 0 ≤ xP x ∧ xP x < 13; unfold xP; split <;> decide, fun x hx => by show xP x = 0; unfold xP; rw [if_neg (by unfold wd at hx; simp at hx; omega)]⟩
    by_cases h3 : j = 18
    · subst h3; exact ⟨fun x => by show 0 ≤ xP x ∧ xP x < 13; unfold xP; split <;> decide, fun x hx => by show xP x = 0; unfold xP; rw [if_neg (by unfold wd at hx; simp at hx; omega)]⟩
    rw [hG j h1 h2 h3]
    exact z13 _
  · rw [hG _ (by omega) (by omega) (by omega)]
    exact ⟨fun _ => ⟨Int.le_refl 0, show (0 : Int) < 2 by decide⟩, fun _ _ => rfl⟩
  · funext i
    by_cases hi : 138 ≤ i ∧ i < 188
    · unfold mkR CS
      rw [if_pos hi, if_neg (by omega), if_neg (by omega), if_neg (by omega), if_neg (by omega), if_neg (by omega), if_neg (by omega), if_neg (by omega), if_neg (by omega), if_neg (by omega), if_neg (by omega), if_neg (by omega), if_neg (by omega), if_neg (by omega), if_neg (by omega), if_neg (by omega), if_neg (by omega), if_neg (by omega), if_pos hi.2]
    · unfold mkR; rw [if_neg hi]
  · unfold CS
    rw [if_neg (by omega), if_neg (by omega), if_neg (by omega), if_neg (by omega), if_neg (by omega), if_neg (by omega), if_neg (by omega), if_neg (by omega), if_neg (by omega), if_neg (by omega), if_neg (by omega), if_neg (by omega), if_neg (by omega), if_neg (by omega), if_neg (by omega), if_neg (by omega), if_neg (by omega), if_neg (by omega)]
theorem CS_at {cs : Nat → ClassId} {ad : Nat → Nat} {C : Nat → va_E} (hf : ffQ cs ad C) (hm : moQ cs ad C) (ho : C 212 = aL cs 1 (fun _ => 0)) : ∃ inv, invP 2 inv ∧ ∀ i, i < 213 → atE (C (piS i)) (CS cs (fun i => ad (piS i)) inv i) := by
  obtain ⟨f0, ⟨b1, ⟨inv, hI, b2⟩, b3, b5, b7, b9, b11, b13, b15⟩, ⟨u17, u19, ⟨u18, uf⟩, u68, u70, u72, u74, u76, u78, u80, u82, u83, u84, u85⟩, ⟨s86, s87, s88, s89, s91, s93, s94⟩, ⟨r95, rf⟩, r128, r130⟩ := hf
  obtain ⟨m132, ⟨⟨f133, m133, n133⟩, m134⟩, ⟨⟨f150, m150, n150⟩, m151⟩, m176, m177, ⟨⟨f186, m186, n186⟩, m187⟩⟩ := hm
  refine ⟨inv, hI, ?_⟩
  have hP : ∀ k b, k < 61 → piS (2 * k) = b → piS (2 * k + 1) = b + 1 → k ≠ 14 → k ≠ 15 → k ≠ 18 → C b = poE (ad (b + 1)) → C (b + 1) = aI cs (wd k) (fun _ => 0) → atE (C (piS (2 * k))) (CS cs (fun i => ad (piS i)) inv (2 * k)) ∧ atE (C (piS (2 * k + 1))) (CS cs (fun i => ad (piS i)) inv (2 * k + 1)) := by
    intro k b hk e1 e2 k1 k2 k3 c1 c2
    have hG : G0S k = fun _ => 0 := by unfold G0S; rw [if_neg k1, if_neg k2, if_neg k3]
    rw [e1, e2, (CS_p hk).1, (CS_p hk).2, hG, dg_0, c1, c2]
    refine ⟨atE_e ?_, atE_e rfl⟩
    show poE (ad (b + 1)) = .inr (0, [.ref (ad (piS (2 * k + 1))), .int (iI (-1))])
    rw [e2]
    rfl
  intro i hi
  by_cases hp : i < 122
  · have two : ∀ k, k < 61 → (atE (C (piS (2 * k))) (CS cs (fun i => ad (piS i)) inv (2 * k)) ∧ atE (C (piS (2 * k + 1))) (CS cs (fun i => ad (piS i)) inv (2 * k + 1))) := by
      intro k hk
      by_cases k1 : 37 ≤ k
      · have e1 : piS (2 * k) = 20 + 2 * (k - 37) := by unfold piS; rw [if_neg (by omega), if_neg (by omega), if_neg (by omega), if_neg (by omega), if_neg (by omega), if_pos (by omega)]; omega
        have e2 : piS (2 * k + 1) = 20 + 2 * (k - 37) + 1 := by unfold piS; rw [if_neg (by omega), if_neg (by omega), if_neg (by omega), if_neg (by omega), if_neg (by omega), if_pos (by omega)]; omega
        exact hP k _ hk e1 e2 (by omega) (by omega) (by omega) (uf (k - 37) (by omega)).1 (by rw [wd_2 (by omega)]; exact (uf (k - 37) (by omega)).2)
      by_cases k2 : 21 ≤ k
      · have e1 : piS (2 * k) = 96 + 2 * (k - 21) := by unfold piS; rw [if_neg (by omega), if_neg (by omega), if_neg (by omega), if_neg (by omega), if_pos (by omega)]; omega
        have e2 : piS (2 * k + 1) = 96 + 2 * (k - 21) + 1 := by unfold piS; rw [if_neg (by omega), if_neg (by omega), if_neg (by omega), if_neg (by omega), if_pos (by omega)]; omega
        exact hP k _ hk e1 e2 (by omega) (by omega) (by omega) (rf (k - 21) (by omega)).1 (by rw [wd_2 (by omega)]; exact (rf (k - 21) (by omega)).2)
      have kk : k = 0 ∨ k = 1 ∨ k = 2 ∨ k = 3 ∨ k = 4 ∨ k = 5 ∨ k = 6 ∨ k = 7 ∨ k = 8 ∨ k = 9 ∨ k = 10 ∨ k = 11 ∨ k = 12 ∨ k = 13 ∨ k = 14 ∨ k = 15 ∨ k = 16 ∨ k = 17 ∨ k = 18 ∨ k = 19 ∨ k = 20 := by omega
      rcases kk with rfl | rfl | rfl | rfl | rfl | rfl | rfl | rfl | rfl | rfl | rfl | rfl | rfl | rfl | rfl | rfl | rfl | rfl | rfl | rfl | rfl
      · exact hP 0 3 (by decide) rfl rfl (by decide) (by decide) (by decide) b3.1 b3.2
      · exact hP 1 5 (by decide) rfl rfl (by decide) (by decide) (by decide) b5.1 b5.2
      · exact hP 2 7 (by decide) rfl rfl (by decide) (by decide) (by decide) b7.1 b7.2
      · exact hP 3 9 (by decide) rfl rfl (by decide) (by decide) (by decide) b9.1 b9.2
      · exact hP 4 11 (by decide) rfl rfl (by decide) (by decide) (by decide) b11.1 b11.2
      · exact hP 5 13 (by decide) rfl rfl (by decide) (by decide) (by decide) b13.1 b13.2
      · exact hP 6 15 (by decide) rfl rfl (by decide) (by decide) (by decide) b15.1 b15.2
      · exact hP 7 68 (by decide) rfl rfl (by decide) (by decide) (by decide) u68.1 u68.2
      · exact hP 8 70 (by decide) rfl rfl (by decide) (by decide) (by decide) u70.1 u70.2
      · exact hP 9 72 (by decide) rfl rfl (by decide) (by decide) (by decide) u72.1 u72.2
      · exact hP 10 74 (by decide) rfl rfl (by decide) (by decide) (by decide) u74.1 u74.2
      · exact hP 11 76 (by decide) rfl rfl (by decide) (by decide) (by decide) u76.1 u76.2
      · exact hP 12 78 (by decide) rfl rfl (by decide) (by decide) (by decide) u78.1 u78.2
      · exact hP 13 80 (by decide) rfl rfl (by decide) (by decide) (by decide) u80.1 u80.2
      · refine ⟨atE_e (u82.trans ?_), atE_e (u83.trans rfl)⟩
        rw [(CS_p (k := 14) (by decide)).1, show G0S 14 = oneP from rfl, oneP_dg]
        rfl
      · refine ⟨atE_e (u84.trans ?_), atE_e (u85.trans rfl)⟩
        rw [(CS_p (k := 15) (by decide)).1, show G0S 15 = xP from rfl, xP_dg]
        rfl
      · exact hP 16 89 (by decide) rfl rfl (by decide) (by decide) (by decide) s89.1 s89.2
      · exact hP 17 91 (by decide) rfl rfl (by decide) (by decide) (by decide) s91.1 s91.2
      · refine ⟨atE_e (s93.trans ?_), atE_e (s94.trans rfl)⟩
        rw [(CS_p (k := 18) (by decide)).1, show G0S 18 = xP from rfl, xP_dg]
        rfl
      · exact hP 19 128 (by decide) rfl rfl (by decide) (by decide) (by decide) r128.1 r128.2
      · exact hP 20 130 (by decide) rfl rfl (by decide) (by decide) (by decide) r130.1 r130.2
    rcases Nat.mod_two_eq_zero_or_one i with e | e
    · have := (two (i / 2) (by omega)).1
      rwa [show 2 * (i / 2) = i by omega] at this
    · have := (two (i / 2) (by omega)).2
      rwa [show 2 * (i / 2) + 1 = i by omega] at this
  · by_cases h2 : i < 138
    · have kk : i = 122 ∨ i = 123 ∨ i = 124 ∨ i = 125 ∨ i = 126 ∨ i = 127 ∨ i = 128 ∨ i = 129 ∨ i = 130 ∨ i = 131 ∨ i = 132 ∨ i = 133 ∨ i = 134 ∨ i = 135 ∨ i = 136 ∨ i = 137 := by omega
      rcases kk with rfl | rfl | rfl | rfl | rfl | rfl | rfl | rfl | rfl | rfl | rfl | rfl | rfl | rfl | rfl | rfl
      · exact atE_e (f0.trans rfl)
      · exact atE_e (b1.trans rfl)
      · exact atE_e (b2.trans rfl)
      · exact atE_e (u17.trans rfl)
      · refine fun D cl q H hh => atE_q (fun j hj => ?_) D cl q H (u18 ▸ hh)
        show (if j < 24 then some (ad (20 + 2 * j)) else none) = some (ad (piS (2 * (37 + j))))
        rw [if_pos hj]
        congr 2
        unfold piS
        rw [if_neg (by omega), if_neg (by omega), if_neg (by omega), if_neg (by omega), if_neg (by omega), if_pos (by omega)]
        omega
      · exact atE_e (u19.trans rfl)
      · exact atE_e (s86.trans rfl)
      · exact atE_e (s87.trans rfl)
      · exact atE_e (s88.trans rfl)
      · refine fun D cl q H hh => atE_q (fun j hj => ?_) D cl q H (r95 ▸ hh)
        show (if j < 16 then some (ad (96 + 2 * j)) else none) = some (ad (piS (2 * (21 + j))))
        rw [if_pos hj]
        congr 2
        unfold piS
        rw [if_neg (by omega), if_neg (by omega), if_neg (by omega), if_neg (by omega), if_pos (by omega)]
        omega
      · exact atE_e (m132.trans rfl)
      · refine fun D cl q H hh => atE_q (fun j hj => ?_) D cl q H (m133 ▸ hh)
        rw [n133 j hj]
        show some (ad (134 + j)) = some (ad (piS (138 + j)))
        congr 2
        unfold piS
        rw [if_neg (by omega), if_neg (by omega), if_neg (by omega), if_neg (by omega), if_neg (by omega), if_neg (by omega), if_neg (by omega), if_neg (by omega), if_neg (by omega), if_neg (by omega), if_neg (by omega), if_neg (by omega), if_neg (by omega), if_neg (by omega), if_neg (by omega), if_neg (by omega), if_neg (by omega), if_neg (by omega), if_neg (by omega), if_neg (by omega), if_neg (by omega), if_pos (by omega)]
        omega
      · refine fun D cl q H hh => atE_q (fun j hj => ?_) D cl q H (m150 ▸ hh)
        rw [n150 j hj]
        show some (ad (151 + j)) = some (ad (piS (138 + (16 + j))))
        congr 2
        unfold piS
        rw [if_neg (by omega), if_neg (by omega), if_neg (by omega), if_neg (by omega), if_neg (by omega), if_neg (by omega), if_neg (by omega), if_neg (by omega), if_neg (by omega), if_neg (by omega), if_neg (by omega), if_neg (by omega), if_neg (by omega), if_neg (by omega), if_neg (by omega), if_neg (by omega), if_neg (by omega), if_neg (by omega), if_neg (by omega), if_neg (by omega), if_neg (by omega), if_neg (by omega), if_pos (by omega)]
        omega
      · exact atE_e (m176.trans rfl)
      · refine fun D cl q H hh => atE_q (fun j hj => ?_) D cl q H (m186 ▸ hh)
        rw [n186 j hj]
        show some (ad (187 + j)) = some (ad (piS (188 + j)))
        congr 2
        unfold piS
        rw [if_neg (by omega), if_neg (by omega), if_neg (by omega), if_neg (by omega), if_neg (by omega), if_neg (by omega), if_neg (by omega), if_neg (by omega), if_neg (by omega), if_neg (by omega), if_neg (by omega), if_neg (by omega), if_neg (by omega), if_neg (by omega), if_neg (by omega), if_neg (by omega), if_neg (by omega), if_neg (by omega), if_neg (by omega), if_neg (by omega), if_neg (by omega), if_neg (by omega), if_neg (by omega), if_neg (by omega)]
        omega
      · exact atE_e (ho.trans rfl)
    · have e0 : CS cs (fun i => ad (piS i)) inv i = aI cs (if i < 188 then 50 else 26) (fun _ => 0) := by
        unfold CS
        rw [if_neg (by omega), if_neg (by omega), if_neg (by omega), if_neg (by omega), if_neg (by omega), if_neg (by omega), if_neg (by omega), if_neg (by omega), if_neg (by omega), if_neg (by omega), if_neg (by omega), if_neg (by omega), if_neg (by omega), if_neg (by omega), if_neg (by omega), if_neg (by omega), if_neg (by omega)]
        split <;> rfl
      have e1 : piS i = if i < 154 then i - 4 else if i < 179 then i - 3 else if i < 188 then i - 2 else i - 1 := by
        unfold piS
        rw [if_neg (by omega), if_neg (by omega), if_neg (by omega), if_neg (by omega), if_neg (by omega), if_neg (by omega), if_neg (by omega), if_neg (by omega), if_neg (by omega), if_neg (by omega), if_neg (by omega), if_neg (by omega), if_neg (by omega), if_neg (by omega), if_neg (by omega), if_neg (by omega), if_neg (by omega), if_neg (by omega), if_neg (by omega), if_neg (by omega), if_neg (by omega)]
      rw [e0, e1]
      by_cases h3 : i < 154
      · rw [if_pos h3, if_pos (by omega), show i - 4 = 134 + (i - 138) by omega]; exact atE_e (m134 (i - 138) (by omega))
      rw [if_neg h3]
      by_cases h4 : i < 179
      · rw [if_pos h4, if_pos (by omega), show i - 3 = 151 + (i - 154) by omega]; exact atE_e (m151 (i - 154) (by omega))
      rw [if_neg h4]
      by_cases h5 : i < 188
      · rw [if_pos h5, if_pos h5, show i - 2 = 177 + (i - 179) by omega]; exact atE_e (m177 (i - 179) (by omega))
      rw [if_neg h5, if_neg h5, show i - 1 = 187 + (i - 188) by omega]
      exact atE_e (m187 (i - 188) (by omega))
