/-! orders by short and long steps; linear factors; values -/
section MG
/-- long steps: what loS finds -/
theorem b_loS {p : Nat} {K : Type} [Lean.Grind.CommRing K] {x : K} {ln : K → Nat} {co : K → Nat → Int} (h : KX p K x ln) (o : CO p K x ln co) {inv : Nat → Int} (hI : invP (p : Int) inv) {m : K} (hm : ln m ≤ 25) (h2 : 2 ≤ ln m) (h0 : co m 0 ≠ 0) (hsh : ∀ k, 1 ≤ k → k < 500 → ¬ mdv m (x ^ k - 1)) {S : K} (lS : ln S < ln m) (dS : mdv m (x ^ 500 - S)) : ∀ (n i : Nat) (F : K), 1 ≤ i → i + n = 201 → ln F < ln m → mdv m (x ^ (500 * i) - F) → (∀ k, 1 ≤ k → k ≤ 500 * (i - 1) → ¬ mdv m (x ^ k - 1)) → fst1 (fun j => mdv m (x ^ j - 1)) (loS (p : Int) inv (fun i => cod (p : Int) (pwr (p : Int) inv xP (co m) i) 0 12 0) (fun i => cod (p : Int) (pwr (p : Int) inv xP (co m) i) 12 12 0) (co S) (co m) i n (co F))
  | 0, i, F, hi, hn, lF, dF, hno => .inl ⟨rfl, fun j h1 h2 => hno j h1 (by omega)⟩
  | n + 1, i, F, hi, hn, lF, dF, hno => by
    have hm0 : m ≠ 0 := by rintro rfl; rw [h.2.2.2.2.1] at h2; omega
    have tell : ∀ j, (cod (p : Int) (pwr (p : Int) inv xP (co m) j) 0 12 0 = cod (p : Int) (co F) 0 12 0 ∧ cod (p : Int) (pwr (p : Int) inv xP (co m) j) 12 12 0 = cod (p : Int) (co F) 12 12 0) ↔ mdv m (x ^ (500 * i) - x ^ j) := by
      intro j
      obtain ⟨r, e1, l1, d1⟩ := b_pwr h o hI hm h2 j
      rw [e1, b_cod h o (by omega) (by omega)]
      constructor
      · rintro rfl
        exact mdv_tr dF (mdv_sy d1)
      · intro hd
        exact ma_red h (mdv_tr hd d1) dF l1 lF
    unfold loS
    rcases fss_sp (fun i => cod (p : Int) (pwr (p : Int) inv xP (co m) i) 0 12 0) (fun i => cod (p : Int) (pwr (p : Int) inv xP (co m) i) 12 12 0) (cod (p : Int) (co F) 0 12 0) (cod (p : Int) (co F) 12 12 0) 500 0 with ⟨e1, e2⟩ | ⟨j, e1, e2, e3, e4⟩
    · rw [e1, if_neg (by decide)]
      obtain ⟨F2, g1, g2, g3⟩ := b_mulm h o hI (a := S) (b := F) (m := m) (by omega) (by omega) (by omega) hm0
      rw [g1]
      refine b_loS h o hI hm h2 h0 hsh lS dS n (i + 1) F2 (by omega) (by omega) g2 ?_ (fun k k1 k2 hk => ?_)
      · rw [show 500 * (i + 1) = 500 + 500 * i by omega, Lean.Grind.Semiring.pow_add]
        exact mdv_tr (mdv_mul dS dF) g3
      · by_cases hk5 : k ≤ 500 * (i - 1)
        · exact hno k k1 hk5 hk
        · refine e2 (500 * i - k) (by omega) (by omega) ((tell (500 * i - k)).2 ?_)
          have e5 : x ^ (500 * i) = x ^ (500 * i - k) * x ^ k := by rw [← Lean.Grind.Semiring.pow_add, Nat.sub_add_cancel (by omega)]
          rw [e5]
          exact mdv_e (mdv_ml (x ^ (500 * i - k)) hk) (by grind)
    · have hd := (tell j).1 e4
      rw [e1, if_pos (by omega)]
      have hE := ma_xcn h o h0 (a := j) (b := 500 * i) (by omega) hd
      refine .inr ⟨500 * i - j, by omega, by omega, by omega, hE, fun k k1 k2 hk => ?_⟩
      by_cases hk5 : k ≤ 500 * (i - 1)
      · exact hno k k1 hk5 hk
      · have e5 : x ^ (500 * i) = x ^ (500 * i - k) * x ^ k := by rw [← Lean.Grind.Semiring.pow_add, Nat.sub_add_cancel (by omega)]
        have d5 : mdv m (x ^ (500 * i) - x ^ (500 * i - k)) := by
          rw [e5]
          exact mdv_e (mdv_ml (x ^ (500 * i - k)) hk) (by grind)
        have d6 : mdv m (x ^ (500 * i - k) - x ^ j) := mdv_tr (mdv_sy d5) hd
        exact hsh _ (by omega) (by omega) (ma_xcn h o h0 (a := j) (b := 500 * i - k) (by omega) d6)
theorem b_ordC {p : Nat} {K : Type} [Lean.Grind.CommRing K] {x : K} {ln : K → Nat} {co : K → Nat → Int} (h : KX p K x ln) (o : CO p K x ln co) {inv : Nat → Int} (hI : invP (p : Int) inv) {m : K} (hm : ln m ≤ 25) (h2 : 2 ≤ ln m) : fst1 (fun j => mdv m (x ^ j - 1)) (ordC (p : Int) inv xP (co m)) := by
  unfold ordC
  by_cases h0 : co m 0 = 0
  · rw [if_pos h0]
    exact .inl ⟨rfl, fun n h1 _ => ma_x0 h o h0 h1⟩
  · rw [if_neg h0]
    have l1 := (ma_1 h).1
    have tell : ∀ j, (dg 300 (pwr (p : Int) inv xP (co m) j) = 0 ∧ pwr (p : Int) inv xP (co m) j 0 = 1) ↔ mdv m (x ^ j - 1) := by
      intro j
      obtain ⟨r, e1, l1, d1⟩ := b_pwr h o hI hm h2 j
      rw [e1, b_isone h o (by omega)]
      constructor
      · rintro rfl; exact d1
      · intro hd; exact ma_red h d1 hd l1 (by omega)
    rcases shS_sp (pwr (p : Int) inv xP (co m)) 500 0 with ⟨e1, e2⟩ | ⟨k, e1, e2, e3, e4, e5, e6⟩
    · rw [e1, if_neg (by decide)]
      obtain ⟨S, g1, g2, g3⟩ := b_pwr h o hI hm h2 500
      rw [g1]
      have hsh : ∀ k, 1 ≤ k → k < 500 → ¬ mdv m (x ^ k - 1) := fun k k1 k2 hk => e2 k (by omega) (by omega) k1 ((tell k).2 hk)
      exact b_loS h o hI hm h2 h0 hsh g2 g3 200 1 S (by omega) rfl g2 g3 (fun k k1 k2 => by omega)
    · rw [e1, if_pos (by omega)]
      exact .inr ⟨k, rfl, by omega, by omega, (tell k).1 e5, fun i i1 i2 hi => e6 i (by omega) i2 (by omega) ((tell i).2 hi)⟩
theorem ord_eq {pr : Int} {inv : Nat → Int} (hl : 0 ≤ limF pr) (hI : invP pr inv) {M : Nat → Int} (hM : okp pr 25 M) (hd : 1 ≤ dg 300 M) : ordC pr inv xP M = ordR pr inv M := by
  obtain ⟨p, rfl, h6⟩ := p6_lim hl
  obtain ⟨K, _, x, ln, co, th, h, o, t⟩ := KX_ex h6
  obtain ⟨m, rfl, lm⟩ := b_of h o hM
  rw [b_dg h o (by omega)] at hd
  exact fst1_uq (b_ordC h o hI lm (by omega)) (b_ordR h o hI lm (by omega))
/-! linear factors -/
theorem b_lin1 {p : Nat} {K : Type} [Lean.Grind.CommRing K] {x : K} {ln : K → Nat} {co : K → Nat → Int} (h : KX p K x ln) (o : CO p K x ln co) {inv : Nat → Int} (hI : invP (p : Int) inv) {l : K} (hl : ln l = 2) : ∀ (f i : Nat) (a t : K), a ≠ 0 → t ≠ 0 → ln a ≤ f + 1 → ln a ≤ 25 → ln a + ln t ≤ 26 → ∃ k a', tko (p : Int) inv (co l) f i (co a) = (i + k, co a') ∧ lnI (p : Int) inv (co l) (f + 1) (co a, co t) = (co a', co (t * l ^ k)) ∧ a' ≠ 0 ∧ t * l ^ k ≠ 0 ∧ ln a' ≤ 25 ∧ ln a' + ln (t * l ^ k) ≤ 26 := by
  have hl0 : l ≠ 0 := by rintro rfl; rw [h.2.2.2.2.1] at hl; omega
  intro f
  induction f with
  | zero =>
    intro i a t ha ht hf ha25 hs
    have l0 : ln a ≠ 0 := fun e => ha ((ma_ln0 h).1 e)
    have l1 : ln t ≠ 0 := fun e => ht ((ma_ln0 h).1 e)
    have e1 : t * l ^ 0 = t := by rw [Lean.Grind.Semiring.pow_zero]; grind
    refine ⟨0, a, rfl, ?_, ha, by rw [e1]; exact ht, ha25, by rw [e1]; exact hs⟩
    rw [e1]
    unfold lnI
    rw [if_neg (by show ¬ 0 < dg 300 (co a); rw [b_dg h o (by omega)]; omega)]
  | succ f ih =>
    intro i a t ha ht hf ha25 hs
    have l0 : ln a ≠ 0 := fun e => ha ((ma_ln0 h).1 e)
    have l1 : ln t ≠ 0 := fun e => ht ((ma_ln0 h).1 e)
    have e1 : t * l ^ 0 = t := by rw [Lean.Grind.Semiring.pow_zero]; grind
    obtain ⟨q, r, e2, e3, lr⟩ := b_dvm h o hI (a := a) (b := l) (by omega) (by omega) hl0
    by_cases hr : r = 0
    · subst hr
      have hq : q ≠ 0 := fun e => ha (by rw [e3, e]; grind)
      have eq : a = l * q := by rw [e3]; grind
      have lq := ma_lnmul h l q hl0 hq
      have lt := ma_lnmul h t l ht hl0
      rw [← eq] at lq
      have lq0 : ln q ≠ 0 := fun e => hq ((ma_ln0 h).1 e)
      have htl : t * l ≠ 0 := fun e => by rcases ma_nz h e with e | e; exact ht e; exact hl0 e
      obtain ⟨k, a', g1, g2, g3, g4, g5, g6⟩ := ih (i + 1) q (t * l) hq htl (by omega) (by omega) (by omega)
      have ek : t * l * l ^ k = t * l ^ (k + 1) := by rw [Lean.Grind.Semiring.pow_succ]; grind
      rw [ek] at g2 g4 g6
      refine ⟨k + 1, a', ?_, ?_, g3, g4, g5, g6⟩
      · unfold tko
        rw [e2, if_neg (by show ¬ 0 ≤ dg 300 (co 0); rw [co_zf h o, dg_0]; decide)]
        show tko (p : Int) inv (co l) f (i + 1) (co q) = _
        rw [g1]
        congr 1
        omega
      · unfold lnI
        rw [if_pos (by show 0 < dg 300 (co a); rw [b_dg h o (by omega)]; omega)]
        show (if dg 300 (dvm (p : Int) inv (co a) (co l)).1 < 0 then lnI (p : Int) inv (co l) (f + 1) ((dvm (p : Int) inv (co a) (co l)).2, prd (p : Int) (co t) (co l)) else (co a, co t)) = _
        rw [e2, if_pos (by show dg 300 (co 0) < 0; rw [co_zf h o, dg_0]; decide), b_prd h o t l (by omega)]
        exact g2
    · have lr0 : ln r ≠ 0 := fun e => hr ((ma_ln0 h).1 e)
      refine ⟨0, a, ?_, ?_, ha, by rw [e1]; exact ht, ha25, by rw [e1]; exact hs⟩
      · unfold tko
        rw [e2, if_pos (by show 0 ≤ dg 300 (co r); rw [b_dg h o (by omega)]; omega)]
        rfl
      · rw [e1]
        unfold lnI
        by_cases hc : 0 < dg 300 (co a)
        · rw [if_pos hc]
          show (if dg 300 (dvm (p : Int) inv (co a) (co l)).1 < 0 then _ else (co a, co t)) = _
          rw [e2, if_neg (by show ¬ dg 300 (co r) < 0; rw [b_dg h o (by omega)]; omega)]
        · rw [if_neg hc]
theorem b_mulN {p : Nat} {K : Type} [Lean.Grind.CommRing K] {x : K} {ln : K → Nat} {co : K → Nat → Int} (h : KX p K x ln) (o : CO p K x ln co) {l : K} (hl : ln l ≤ 300) : ∀ (n : Nat) (t : K), mulN (p : Int) (co l) n (co t) = co (t * l ^ n)
  | 0, t => by show co t = _; rw [Lean.Grind.Semiring.pow_zero]; congr 1; grind
  | n + 1, t => by
    show mulN (p : Int) (co l) n (prd (p : Int) (co l) (co t)) = _
    rw [b_prd h o l t hl, b_mulN h o hl n, Lean.Grind.Semiring.pow_succ]
    congr 1
    grind
theorem b_lin {p : Nat} {K : Type} [Lean.Grind.CommRing K] {x : K} {ln : K → Nat} {co : K → Nat → Int} (h : KX p K x ln) (o : CO p K x ln co) {inv : Nat → Int} (hI : invP (p : Int) inv) : ∀ (n v : Nat) (a t : K), a ≠ 0 → t ≠ 0 → ln a ≤ 25 → ln a + ln t ≤ 26 → ∃ a' t', linL (p : Int) inv v n (co t, co a) = (co t', co a') ∧ lrL (p : Int) inv n v (co a, co t) = (co a', co t')
  | 0, v, a, t, ha, ht, h1, h2 => ⟨a, t, rfl, rfl⟩
  | n + 1, v, a, t, ha, ht, h1, h2 => by
    have hp := h.1.two
    obtain ⟨l, el, ll⟩ := b_of h o (F := lnS (p : Int) v) (n := 2) (lnS_ok (by omega))
    have l2 : ln l = 2 := by
      have e := b_dg h o (a := l) (by omega)
      rw [el, lnS_dg] at e
      omega
    obtain ⟨k, a', g1, g2, g3, g4, g5, g6⟩ := b_lin1 h o hI l2 24 0 a t ha ht (by omega) h1 h2
    obtain ⟨a2, t2, k1, k2⟩ := b_lin h o hI n (v + 1) a' (t * l ^ k) g3 g4 g5 g6
    refine ⟨a2, t2, ?_, ?_⟩
    · show linL (p : Int) inv (v + 1) n (mulN (p : Int) (lnS (p : Int) v) (tko (p : Int) inv (lnS (p : Int) v) 24 0 (co a)).1 (co t), (tko (p : Int) inv (lnS (p : Int) v) 24 0 (co a)).2) = _
      rw [← el, g1]
      show linL (p : Int) inv (v + 1) n (mulN (p : Int) (co l) (0 + k) (co t), co a') = _
      rw [Nat.zero_add, b_mulN h o (by omega)]
      exact k1
    · show lrL (p : Int) inv n (v + 1) (lnI (p : Int) inv (lnS (p : Int) v) 25 (co a, co t)) = _
      rw [← el, g2]
      exact k2
theorem lin_eq {pr : Int} {inv : Nat → Int} (hl : 0 ≤ limF pr) (hI : invP pr inv) {A : Nat → Int} (hA : okp pr 25 A) (hd : 0 ≤ dg 300 A) (n v : Nat) : (linL pr inv v n (oneP, A)).1 = (lrL pr inv n v (A, oneP)).2 := by
  obtain ⟨p, rfl, h6⟩ := p6_lim hl
  obtain ⟨K, _, x, ln, co, th, h, o, t⟩ := KX_ex h6
  obtain ⟨a, rfl, la⟩ := b_of h o hA
  rw [b_dg h o (by omega)] at hd
  have l1 := ma_1 h
  obtain ⟨a', t', e1, e2⟩ := b_lin h o hI n v a 1 (fun e => by rw [e, h.2.2.2.2.1] at hd; omega) l1.2 la (by omega)
  rw [← b_one h o, e1, e2]
/-! values -/
theorem hor_skip {pr : Int} {F : Nat → Int} {v : Int} (n : Nat) : ∀ k, (∀ y, n ≤ y → y < n + k → F y = 0) → hor pr F v (n + k) 0 = hor pr F v n 0
  | 0, _ => rfl
  | k + 1, hz => by
    show hor pr F v (n + k) ((0 * v + F (n + k)) % pr) = _
    rw [hz (n + k) (by omega) (by omega), show (0 * v + 0) % pr = 0 by simp]
    exact hor_skip n k (fun y h1 h2 => hz y h1 (by omega))
theorem hor_eq {pr : Int} {F : Nat → Int} {v : Int} {n N : Nat} (hF : okp pr n F) (hn : n ≤ 300) (hN : n ≤ N) : hor pr F v (dg 300 F + 1).toNat 0 = hor pr F v N 0 := by
  have h1 := dg_lt 300 F
  have h0 := dg_ge 300 F
  by_cases hc : (dg 300 F + 1).toNat ≤ N
  · have := hor_skip (pr := pr) (F := F) (v := v) (dg 300 F + 1).toNat (N - (dg 300 F + 1).toNat) (fun y y1 y2 => ?_)
    · rw [← this]; congr 1; omega
    · by_cases hy : y < 300
      · exact dg_above (n := 300) (by omega) hy
      · exact hF.2 y (by omega)
  · have e : F (dg 300 F).toNat = 0 := hF.2 _ (by omega)
    exact absurd e (dg_top (n := 300) (by omega))
end MG
