/-! sorting, and both lists are one; degrees of products -/
section MN
theorem UZ_swp {p : Nat} {K : Type} [Lean.Grind.CommRing K] {x : K} {ln : K → Nat} {co : K → Nat → Int} (h : KX p K x ln) (o : CO p K x ln co) {b : K} {S : KS} {i k : Nat} (hi : i < S.1) (hk : k < S.1) (hik : i ≠ k) (hU : ∃ f e, UZ ln co S.1 S f e ∧ b = prE f e S.1) : ∃ f e, UZ ln co S.1 (swpK S i k) f e ∧ b = prE f e S.1 := by
  obtain ⟨f, e, ⟨u1, u2⟩, u3⟩ := hU
  have dist : ∀ a c, a < S.1 → c < S.1 → a ≠ c → f a ≠ f c := fun a c ha hc hac => by
    rcases Nat.lt_or_gt_of_ne hac with hl | hl
    · exact u2 a c hl hc
    · exact fun e => u2 c a hl ha e.symm
  let sw : Nat → Nat := fun j => if j = k then i else if j = i then k else j
  have swlt : ∀ j, j < S.1 → sw j < S.1 := fun j hj => by show (if j = k then i else if j = i then k else j) < S.1; split; exact hi; split; exact hk; exact hj
  have swinj : ∀ a c, sw a = sw c → a = c := fun a c e => by
    have e : (if a = k then i else if a = i then k else a) = (if c = k then i else if c = i then k else c) := e
    split at e <;> split at e <;> (try split at e) <;> (try split at e) <;> omega
  have vals : ∀ j, (swpK S i k).2.1 j = S.2.1 (sw j) ∧ (swpK S i k).2.2 j = S.2.2 (sw j) := fun j => by
    show va_up (va_up S.2.1 i (S.2.1 k)) k (S.2.1 i) j = S.2.1 (if j = k then i else if j = i then k else j) ∧ va_up (va_up S.2.2 i (S.2.2 k)) k (S.2.2 i) j = S.2.2 (if j = k then i else if j = i then k else j)
    by_cases h1 : j = k
    · subst h1
      rw [va_up_self, va_up_self, if_pos rfl]
      exact ⟨rfl, rfl⟩
    · rw [va_up_ne _ _ h1, va_up_ne _ _ h1, if_neg h1]
      by_cases h2 : j = i
      · subst h2
        rw [va_up_self, va_up_self, if_pos rfl]
        exact ⟨rfl, rfl⟩
      · rw [va_up_ne _ _ h2, va_up_ne _ _ h2, if_neg h2]
        exact ⟨rfl, rfl⟩
  refine ⟨fun j => f (sw j), fun j => e (sw j), ⟨fun j hj => ?_, fun a c hac hc ee => ?_⟩, ?_⟩
  · rw [(vals j).1, (vals j).2]
    exact u1 (sw j) (swlt j hj)
  · have : sw a ≠ sw c := fun e => by have := swinj a c e; omega
    exact dist _ _ (swlt a (by omega)) (swlt c hc) this ee
  · have e1 := prE_out (f := f) (e := e) S.1 hi
    have e2 := prE_out (f := f) (e := va_up e i 0) S.1 hk
    have e3 := prE_out (f := fun j => f (sw j)) (e := fun j => e (sw j)) S.1 hi
    have e4 := prE_out (f := fun j => f (sw j)) (e := va_up (fun j => e (sw j)) i 0) S.1 hk
    have swi : sw i = k := by show (if i = k then i else if i = i then k else i) = k; rw [if_neg hik, if_pos rfl]
    have swk : sw k = i := by show (if k = k then i else if k = i then k else k) = i; rw [if_pos rfl]
    have e5 : prE (fun j => f (sw j)) (va_up (va_up (fun j => e (sw j)) i 0) k 0) S.1 = prE f (va_up (va_up e i 0) k 0) S.1 := by
      have gen : ∀ n, prE (fun j => f (sw j)) (va_up (va_up (fun j => e (sw j)) i 0) k 0) n = prE f (va_up (va_up e i 0) k 0) n := by
        intro n
        induction n with
        | zero => rfl
        | succ n ih =>
          show prE _ _ n * f (sw n) ^ (va_up (va_up (fun j => e (sw j)) i 0) k 0 n) = prE _ _ n * f n ^ (va_up (va_up e i 0) k 0 n)
          rw [ih]
          by_cases h1 : n = k
          · subst h1; rw [va_up_self, va_up_self, Lean.Grind.Semiring.pow_zero, Lean.Grind.Semiring.pow_zero]
          · rw [va_up_ne _ _ h1, va_up_ne _ _ h1]
            by_cases h2 : n = i
            · subst h2; rw [va_up_self, va_up_self, Lean.Grind.Semiring.pow_zero, Lean.Grind.Semiring.pow_zero]
            · rw [va_up_ne _ _ h2, va_up_ne _ _ h2]
              have : sw n = n := by show (if n = k then i else if n = i then k else n) = n; rw [if_neg h1, if_neg h2]
              rw [this]
      exact gen S.1
    rw [u3, e1, e2, e3, e4, e5, va_up_ne _ _ (fun e => hik e.symm), va_up_ne _ _ (fun e => hik e.symm)]
    simp only [swi, swk]
    grind
theorem UZ_vl {p : Nat} {K : Type} [Lean.Grind.CommRing K] {x : K} {ln : K → Nat} {co : K → Nat → Int} (h : KX p K x ln) (o : CO p K x ln co) {S : KS} {f : Nat → K} {e : Nat → Nat} {n : Nat} (hU : UZ ln co n S f e) {a c : Nat} (ha : a < n) (hc : c < n) (hac : a ≠ c) : vl (S.2.1 a) 50 ≠ vl (S.2.1 c) 50 := fun ev => by
  have fa := hU.1 a ha
  have fc := hU.1 c hc
  rw [fa.1, fc.1] at ev
  have := co_ext h o (vl_inj (b_ok50 h o fa.2.2.2.2.2) (b_ok50 h o fc.2.2.2.2.2) ev)
  rcases Nat.lt_or_gt_of_ne hac with hl | hl
  · exact hU.2 a c hl hc this
  · exact hU.2 c a hl ha this.symm
/-- one element sinks to its place -/
theorem b_insK {p : Nat} {K : Type} [Lean.Grind.CommRing K] {x : K} {ln : K → Nat} {co : K → Nat → Int} (h : KX p K x ln) (o : CO p K x ln co) {b : K} {m : Nat} : ∀ (k : Nat) (S : KS), k ≤ m → m < S.1 → (∃ f e, UZ ln co S.1 S f e ∧ b = prE f e S.1) → (∀ i j, i < j → j ≤ m → i ≠ k → j ≠ k → vl (S.2.1 i) 50 < vl (S.2.1 j) 50) → (∀ j, k < j → j ≤ m → vl (S.2.1 k) 50 < vl (S.2.1 j) 50) → (insK k S).1 = S.1 ∧ (∃ f e, UZ ln co S.1 (insK k S) f e ∧ b = prE f e S.1) ∧ ∀ i j, i < j → j ≤ m → vl ((insK k S).2.1 i) 50 < vl ((insK k S).2.1 j) 50
  | 0, S, hk, hm, hU, h1, h2 => ⟨rfl, hU, fun i j hi hj => by
      by_cases e : i = 0
      · subst e; exact h2 j hi hj
      · exact h1 i j hi hj e (by omega)⟩
  | k + 1, S, hk, hm, hU, h1, h2 => by
    obtain ⟨f, e, u, up⟩ := hU
    have fa := u.1 (k + 1) (by omega)
    have fc := u.1 k (by omega)
    have hb := bef_vl (F := S.2.1 (k + 1)) (B := S.2.1 k) (by rw [fa.1]; exact b_ok50 h o fa.2.2.2.2.2) (by rw [fc.1]; exact b_ok50 h o fc.2.2.2.2.2)
    by_cases hc : bef (S.2.1 (k + 1)) (S.2.1 k) = true
    · have ei : insK (k + 1) S = insK k (swpK S (k + 1) k) := if_pos hc
      rw [ei]
      have v1 : (swpK S (k + 1) k).2.1 k = S.2.1 (k + 1) := va_up_self _ _ _
      have v2 : (swpK S (k + 1) k).2.1 (k + 1) = S.2.1 k := by
        show va_up (va_up S.2.1 (k + 1) (S.2.1 k)) k (S.2.1 (k + 1)) (k + 1) = _
        rw [va_up_ne _ _ (by omega), va_up_self]
      have v3 : ∀ j, j ≠ k → j ≠ k + 1 → (swpK S (k + 1) k).2.1 j = S.2.1 j := fun j a c => by
        show va_up (va_up S.2.1 (k + 1) (S.2.1 k)) k (S.2.1 (k + 1)) j = _
        rw [va_up_ne _ _ a, va_up_ne _ _ c]
      have hlt := hb.1 hc
      exact b_insK h o k (swpK S (k + 1) k) (by omega) hm (UZ_swp h o (by omega) (by omega) (by omega) ⟨f, e, u, up⟩) (fun i j hi hj i1 j1 => by
        by_cases hi2 : i = k + 1
        · subst hi2
          rw [v2, v3 j (by omega) (by omega)]
          exact h1 k j (by omega) hj (by omega) (by omega)
        · by_cases hj2 : j = k + 1
          · subst hj2
            rw [v2, v3 i i1 hi2]
            exact h1 i k (by omega) (by omega) (by omega) (by omega)
          · rw [v3 i i1 hi2, v3 j j1 hj2]
            exact h1 i j hi hj hi2 hj2) (fun j hj hj2 => by
        rw [v1]
        by_cases hj3 : j = k + 1
        · subst hj3; rw [v2]; exact hlt
        · rw [v3 j (by omega) hj3]; exact h2 j (by omega) hj2)
    · have ei : insK (k + 1) S = S := if_neg hc
      rw [ei]
      refine ⟨rfl, ⟨f, e, u, up⟩, fun i j hi hj => ?_⟩
      have hne := UZ_vl h o u (a := k + 1) (c := k) (by omega) (by omega) (by omega)
      have hge : vl (S.2.1 k) 50 < vl (S.2.1 (k + 1)) 50 := by
        have : ¬ vl (S.2.1 (k + 1)) 50 < vl (S.2.1 k) 50 := fun hl => hc (hb.2 hl)
        omega
      by_cases hi2 : i = k + 1
      · subst hi2; exact h2 j hi hj
      · by_cases hj2 : j = k + 1
        · subst hj2
          by_cases hik : i = k
          · rw [hik]; exact hge
          · have := h1 i k (by omega) (by omega) hi2 (by omega)
            omega
        · exact h1 i j hi hj hi2 hj2
theorem b_srtK {p : Nat} {K : Type} [Lean.Grind.CommRing K] {x : K} {ln : K → Nat} {co : K → Nat → Int} (h : KX p K x ln) (o : CO p K x ln co) {b : K} : ∀ (n i : Nat) (S : KS), i + n = S.1 → (∃ f e, UZ ln co S.1 S f e ∧ b = prE f e S.1) → (∀ a c, a < c → c < i → vl (S.2.1 a) 50 < vl (S.2.1 c) 50) → (srtK i n S).1 = S.1 ∧ FZ ln co b (srtK i n S)
  | 0, i, S, hi, hU, hs => by
    obtain ⟨f, e, u, up⟩ := hU
    exact ⟨rfl, f, e, u.1, fun a c h1 h2 => hs a c h1 (by have h2 : c < S.1 := h2; omega), up⟩
  | n + 1, i, S, hi, hU, hs => by
    obtain ⟨e1, e2, e3⟩ := b_insK h o (m := i) i S (Nat.le_refl _) (by omega) hU (fun a c h1 h2 h3 h4 => hs a c h1 (by omega)) (fun j h1 h2 => by omega)
    have := b_srtK h o n (i + 1) (insK i S) (by rw [e1]; omega) (by rw [e1]; exact e2) (fun a c h1 h2 => e3 a c h1 (by omega))
    rw [e1] at this
    exact this
theorem b_cutC {p : Nat} {K : Type} [Lean.Grind.CommRing K] {x : K} {ln : K → Nat} {co : K → Nat → Int} (h : KX p K x ln) (o : CO p K x ln co) {inv : Nat → Int} (hI : invP (p : Int) inv) {th : K → K} (hth : TH K x th) {a : K} (h0 : a ≠ 0) (ha : ln a ≤ 25) (K0 : KS) : ∃ u : Nat, mon (p : Int) inv (co a) = co (nc u * a) ∧ FZ ln co (nc u * a) (cutC (p : Int) inv xP oneP K0 (co a)) := by
  obtain ⟨u, u1, u2, u3⟩ := b_mon h o hI (a := a) (by omega) h0
  refine ⟨u, u2, ?_⟩
  have l1 := ma_lncm h u1 a
  have lx := (ma_lx h).1
  obtain ⟨S, f, e, r, d, g1, g2, g3, g4, g5, g6, g7, g8⟩ := b_cutL h o hI hth (a := nc u * a) 24 1 (0, K0.2) (fun _ => 1) (fun _ => 1) (nc u * a) x rfl (Nat.le_refl 1) ⟨fun i hi => absurd hi (Nat.not_lt_zero i), fun i j hi hj => absurd hj (Nat.not_lt_zero j)⟩ (by show nc u * a = 1 * (nc u * a); grind) u3 (by show 0 + ln (nc u * a) ≤ 25; omega) (fun i hi => absurd hi (Nat.not_lt_zero i)) (fun q q1 _ => q1.1) (by omega) (by rw [Nat.sub_self, ma_pow00]; exact mdv_rf _ x)
  rw [b_x h o] at g1
  unfold cutC
  rw [u2, g1]
  have key : ∃ f' e', UZ ln co (endK (S, co r)).1 (endK (S, co r)) f' e' ∧ nc u * a = prE f' e' (endK (S, co r)).1 := by
    unfold endK
    show ∃ f' e', UZ ln co (if 0 < dg 300 (co r) then appK S (co r) 1 else S).1 (if 0 < dg 300 (co r) then appK S (co r) 1 else S) f' e' ∧ _ = prE f' e' (if 0 < dg 300 (co r) then appK S (co r) 1 else S).1
    rw [b_dg h o (a := r) (by omega)]
    by_cases hd : 0 < (ln r : Int) - 1
    · have ea : appK S (co r) 1 = (S.1 + 1, va_up S.2.1 S.1 (co r), va_up S.2.2 S.1 1) := if_pos (by omega)
      rw [if_pos hd, ea]
      have ir := irr_of h o (e := d) (by omega) (fun q q1 _ q3 => g7 q q1 q3) g8
      refine ⟨va_up f S.1 r, va_up e S.1 1, ⟨fun i hi => ?_, fun i j hi hj => ?_⟩, ?_⟩
      · have hi2 : i < S.1 + 1 := hi
        show va_up S.2.1 S.1 (co r) i = _ ∧ va_up S.2.2 S.1 1 i = _ ∧ _
        by_cases e1 : i = S.1
        · subst e1
          rw [va_up_self, va_up_self, va_up_self, va_up_self]
          exact ⟨rfl, rfl, Nat.le_refl 1, ir, g4, by omega⟩
        · rw [va_up_ne _ _ e1, va_up_ne _ _ e1, va_up_ne _ _ e1, va_up_ne _ _ e1]
          exact g2.1 i (by omega)
      · have hj2 : j < S.1 + 1 := hj
        by_cases e1 : j = S.1
        · subst e1
          rw [va_up_self, va_up_ne _ _ (by omega)]
          exact fun ee => g6 i (by omega) (ee ▸ mdv_r _)
        · rw [va_up_ne _ _ e1, va_up_ne _ _ (by omega)]
          exact g2.2 i j hi (by omega)
      · show _ = prE (va_up f S.1 r) (va_up e S.1 1) S.1 * va_up f S.1 r S.1 ^ (va_up e S.1 1 S.1)
        rw [va_up_self, va_up_self, ma_pow1, prE_congr (g := f) (d := e) S.1 (fun i hi => ⟨va_up_ne f r (by omega), va_up_ne e 1 (by omega)⟩), ← g3]
    · rw [if_neg hd]
      refine ⟨f, e, g2, ?_⟩
      rw [g3, mnc_const h o g4 (by omega)]
      grind
  by_cases hz : (endK (S, co r)).1 = 0
  · obtain ⟨f', e', k1, k2⟩ := key
    rw [hz]
    show FZ ln co (nc u * a) (endK (S, co r))
    exact ⟨f', e', k1.1, fun i j hi hj => by omega, k2⟩
  · exact (b_srtK h o _ 1 (endK (S, co r)) (by omega) key (fun a c h1 h2 => by omega)).2
theorem fac_eq {pr : Int} {inv : Nat → Int} (hl : 0 ≤ limF pr) (hI : invP pr inv) {A : Nat → Int} (hA : okp pr 25 A) (hd : 0 ≤ dg 300 A) (K1 K2 : KS) : (cutC pr inv xP oneP K1 A).1 = (facR pr inv K2 A).1 ∧ ∀ i, i < (cutC pr inv xP oneP K1 A).1 → (cutC pr inv xP oneP K1 A).2.1 i = (facR pr inv K2 A).2.1 i ∧ (cutC pr inv xP oneP K1 A).2.2 i = (facR pr inv K2 A).2.2 i := by
  obtain ⟨p, rfl, h6⟩ := p6_lim hl
  obtain ⟨K, _, x, ln, co, th, h, o, t⟩ := KX_ex h6
  obtain ⟨a, rfl, la⟩ := b_of h o hA
  rw [b_dg h o (by omega)] at hd
  have ha : a ≠ 0 := fun e => by rw [e, h.2.2.2.2.1] at hd; omega
  obtain ⟨u, e1, z1⟩ := b_cutC h o hI t ha la K1
  obtain ⟨v, _, e2, _, z2⟩ := b_facR h o hI ha la K2
  have : nc u * a = nc v * a := co_ext h o (e1.symm.trans e2)
  rw [this] at z1
  exact FZ_uq h o z1 z2
/-- a product's degree -/
theorem prd_deg {pr : Int} (hl : 0 ≤ limF pr) {A B : Nat → Int} (hA : okp pr 25 A) (hB : okp pr 25 B) : dg 300 (prd pr A B) = if dg 300 A < 0 ∨ dg 300 B < 0 then -1 else dg 300 A + dg 300 B := by
  obtain ⟨p, rfl, h6⟩ := p6_lim hl
  obtain ⟨K, _, x, ln, co, th, h, o, t⟩ := KX_ex h6
  obtain ⟨a, rfl, la⟩ := b_of h o hA
  obtain ⟨b, rfl, lb⟩ := b_of h o hB
  rw [b_prd h o a b (by omega), b_dg h o (a := a) (by omega), b_dg h o (a := b) (by omega)]
  have m0 := ma_lnmulle h a b
  rw [b_dg h o (a := a * b) (by omega)]
  by_cases ha : a = 0
  · rw [if_pos (.inl (by rw [ha, h.2.2.2.2.1]; decide)), ha, show (0 : K) * b = 0 by grind, h.2.2.2.2.1]; decide
  by_cases hb : b = 0
  · rw [if_pos (.inr (by rw [hb, h.2.2.2.2.1]; decide)), hb, show a * (0 : K) = 0 by grind, h.2.2.2.2.1]; decide
  have la0 : ln a ≠ 0 := fun e => ha ((ma_ln0 h).1 e)
  have lb0 : ln b ≠ 0 := fun e => hb ((ma_ln0 h).1 e)
  have m := ma_lnmul h a b ha hb
  rw [if_neg (by omega)]
  omega
end MN
