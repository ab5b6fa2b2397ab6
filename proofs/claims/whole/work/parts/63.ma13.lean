/-! the reference's list of factors -/
section MK
theorem fndK_sp (F : Nat → Nat → Int) (a : Nat → Int) : ∀ (n i : Nat), (fndK F a n i = none ∧ ∀ j, i ≤ j → j < i + n → samB (F j) a 50 = false) ∨ ∃ j, fndK F a n i = some j ∧ i ≤ j ∧ j < i + n ∧ samB (F j) a 50 = true
  | 0, i => .inl ⟨rfl, fun j h1 h2 => by omega⟩
  | n + 1, i => by
    by_cases hc : samB (F i) a 50 = true
    · exact .inr ⟨i, by unfold fndK; rw [if_pos hc], by omega, by omega, hc⟩
    · have e : fndK F a (n + 1) i = fndK F a n (i + 1) := if_neg hc
      rw [e]
      rcases fndK_sp F a n (i + 1) with ⟨e1, e2⟩ | ⟨j, e1, e2, e3, e4⟩
      · refine .inl ⟨e1, fun j h1 h2 => ?_⟩
        by_cases hj : j = i
        · rw [hj]; exact Bool.eq_false_iff.2 hc
        · exact e2 j (by omega) (by omega)
      · exact .inr ⟨j, e1, by omega, by omega, e4⟩
theorem insN_sp (a : Nat → Int) (v : Int) : ∀ (k : Nat) (s : (Nat → Nat → Int) × (Nat → Int)), ∃ j, j ≤ k ∧ (∀ i, i < j → (insN a v k s).1 i = s.1 i ∧ (insN a v k s).2 i = s.2 i) ∧ ((insN a v k s).1 j = a ∧ (insN a v k s).2 j = v) ∧ (∀ i, j ≤ i → i < k → (insN a v k s).1 (i + 1) = s.1 i ∧ (insN a v k s).2 (i + 1) = s.2 i) ∧ (∀ i, j ≤ i → i < k → bef a (s.1 i) = true) ∧ (j = 0 ∨ bef a (s.1 (j - 1)) ≠ true) ∧ ∀ i, k < i → (insN a v k s).1 i = s.1 i ∧ (insN a v k s).2 i = s.2 i
  | 0, s => ⟨0, Nat.le_refl _, fun i hi => by omega, ⟨va_up_self s.1 0 a, va_up_self s.2 0 v⟩, fun i h1 h2 => by omega, fun i h1 h2 => by omega, .inl rfl, fun i hi => ⟨va_up_ne s.1 a (by omega), va_up_ne s.2 v (by omega)⟩⟩
  | k + 1, s => by
    by_cases hc : bef a (s.1 k) = true
    · have e : insN a v (k + 1) s = insN a v k (va_up s.1 (k + 1) (s.1 k), va_up s.2 (k + 1) (s.2 k)) := if_pos hc
      obtain ⟨j, j1, j2, j3, j4, j5, j6, j7⟩ := insN_sp a v k (va_up s.1 (k + 1) (s.1 k), va_up s.2 (k + 1) (s.2 k))
      rw [e]
      refine ⟨j, by omega, fun i hi => ?_, j3, fun i h1 h2 => ?_, fun i h1 h2 => ?_, ?_, fun i hi => ?_⟩
      · have := j2 i hi
        rw [this.1, this.2]
        exact ⟨va_up_ne _ _ (by omega), va_up_ne _ _ (by omega)⟩
      · by_cases hik : i = k
        · subst hik
          have := j7 (i + 1) (by omega)
          rw [this.1, this.2]
          exact ⟨va_up_self _ _ _, va_up_self _ _ _⟩
        · have := j4 i h1 (by omega)
          rw [this.1, this.2]
          exact ⟨va_up_ne _ _ (by omega), va_up_ne _ _ (by omega)⟩
      · by_cases hik : i = k
        · rw [hik]; exact hc
        · have := j5 i h1 (by omega)
          rwa [show (va_up s.1 (k + 1) (s.1 k), va_up s.2 (k + 1) (s.2 k)).1 i = s.1 i from va_up_ne _ _ (by omega)] at this
      · rcases j6 with j6 | j6
        · exact .inl j6
        · by_cases hj : j = 0
          · exact .inl hj
          · rw [show (va_up s.1 (k + 1) (s.1 k), va_up s.2 (k + 1) (s.2 k)).1 (j - 1) = s.1 (j - 1) from va_up_ne _ _ (by omega)] at j6
            exact .inr j6
      · have := j7 i (by omega)
        rw [this.1, this.2]
        exact ⟨va_up_ne _ _ (by omega), va_up_ne _ _ (by omega)⟩
    · have e : insN a v (k + 1) s = (va_up s.1 (k + 1) a, va_up s.2 (k + 1) v) := if_neg hc
      rw [e]
      exact ⟨k + 1, Nat.le_refl _, fun i hi => ⟨va_up_ne _ _ (by omega), va_up_ne _ _ (by omega)⟩, ⟨va_up_self _ _ _, va_up_self _ _ _⟩, fun i h1 h2 => by omega, fun i h1 h2 => by omega, .inr (by rw [Nat.add_sub_cancel]; exact hc), fun i hi => ⟨va_up_ne _ _ (by omega), va_up_ne _ _ (by omega)⟩⟩
theorem prE_ins {K : Type} [Lean.Grind.CommRing K] {f g : Nat → K} {e d : Nat → Nat} {j : Nat} (h1 : ∀ i, i < j → g i = f i ∧ d i = e i) : ∀ k, (∀ i, j ≤ i → i < j + k → g (i + 1) = f i ∧ d (i + 1) = e i) → prE g d (j + k + 1) = prE f e (j + k) * g j ^ d j
  | 0, _ => by
    show prE g d j * g j ^ d j = prE f e j * g j ^ d j
    rw [prE_congr j h1]
  | k + 1, h2 => by
    show prE g d (j + k + 1) * g (j + k + 1) ^ d (j + k + 1) = prE f e (j + k) * f (j + k) ^ e (j + k) * g j ^ d j
    rw [prE_ins h1 k (fun i a b => h2 i a (by omega)), (h2 (j + k) (by omega) (by omega)).1, (h2 (j + k) (by omega) (by omega)).2]
    grind
theorem FZ_note {p : Nat} {K : Type} [Lean.Grind.CommRing K] {x : K} {ln : K → Nat} {co : K → Nat → Int} (h : KX p K x ln) (o : CO p K x ln co) {b g : K} {S : KS} (hS : FZ ln co b S) (hg : irr ln g) (hm : mnc ln co g) (hl : ln g ≤ 25) : FZ ln co (b * g) (noteK S (co g) 1) := by
  obtain ⟨f, e, f1, f2, f3⟩ := hS
  have okf : ∀ i, i < S.1 → ok 50 (S.2.1 i) := fun i hi => by rw [(f1 i hi).1]; exact b_ok50 h o (f1 i hi).2.2.2.2.2
  have okg := b_ok50 h o hl
  unfold noteK
  rcases fndK_sp S.2.1 (co g) S.1 0 with ⟨e1, e2⟩ | ⟨j, e1, _, e3, e4⟩
  · rw [e1]
    show FZ ln co (b * g) (S.1 + 1, insN (co g) 1 S.1 S.2)
    obtain ⟨j, j1, j2, j3, j4, j5, j6, j7⟩ := insN_sp (co g) 1 S.1 S.2
    have hne : ∀ i, i < S.1 → vl (S.2.1 i) 50 ≠ vl (co g) 50 := fun i hi ev => by
      have e5 := vl_inj (okf i hi) okg ev
      have := e2 i (by omega) (by omega)
      rw [(samB_iff (okf i hi) okg).2 e5] at this
      exact absurd this (by decide)
    have hup : ∀ i, j ≤ i → i < S.1 → vl (co g) 50 < vl (S.2.1 i) 50 := fun i h1 h2 => (bef_vl okg (okf i h2)).1 (j5 i h1 h2)
    have hdn : ∀ i, i < j → vl (S.2.1 i) 50 < vl (co g) 50 := fun i hi => by
      rcases j6 with j6 | j6
      · omega
      · have e6 : ¬ vl (co g) 50 < vl (S.2.1 (j - 1)) 50 := fun hlt => j6 ((bef_vl okg (okf (j - 1) (by omega))).2 hlt)
        have e7 := hne (j - 1) (by omega)
        by_cases hij : i = j - 1
        · rw [hij]; omega
        · have := f2 i (j - 1) (by omega) (by omega); omega
    refine ⟨fun i => if i < j then f i else if i = j then g else f (i - 1), fun i => if i < j then e i else if i = j then 1 else e (i - 1), fun i hi => ?_, fun i k hik hk => ?_, ?_⟩
    · show (insN (co g) 1 S.1 S.2).1 i = _ ∧ (insN (co g) 1 S.1 S.2).2 i = _ ∧ _
      by_cases h1 : i < j
      · rw [(j2 i h1).1, (j2 i h1).2]
        simp only [if_pos h1]
        exact f1 i (by omega)
      · by_cases h2 : i = j
        · subst h2
          rw [j3.1, j3.2]
          simp only [if_neg h1, if_true]
          exact ⟨trivial, by decide, by decide, hg, hm, hl⟩
        · have h3 : i < S.1 + 1 := hi
          have := j4 (i - 1) (by omega) (by omega)
          rw [show i - 1 + 1 = i by omega] at this
          rw [this.1, this.2]
          simp only [if_neg h1, if_neg h2]
          exact f1 (i - 1) (by omega)
    · have hk2 : k < S.1 + 1 := hk
      show vl ((insN (co g) 1 S.1 S.2).1 i) 50 < vl ((insN (co g) 1 S.1 S.2).1 k) 50
      have shift : ∀ q, j < q → q < S.1 + 1 → (insN (co g) 1 S.1 S.2).1 q = S.2.1 (q - 1) := fun q q1 q2 => by
        have := (j4 (q - 1) (by omega) (by omega)).1
        rwa [show q - 1 + 1 = q by omega] at this
      by_cases h1 : k < j
      · rw [(j2 i (by omega)).1, (j2 k h1).1]; exact f2 i k hik (by omega)
      by_cases h2 : k = j
      · rw [(j2 i (by omega)).1, h2, j3.1]; exact hdn i (by omega)
      rw [shift k (by omega) hk2]
      by_cases h3 : i < j
      · rw [(j2 i h3).1]
        have a1 := hdn i h3
        have a2 := hup (k - 1) (by omega) (by omega)
        omega
      by_cases h4 : i = j
      · rw [h4, j3.1]; exact hup (k - 1) (by omega) (by omega)
      rw [shift i (by omega) (by omega)]
      exact f2 (i - 1) (k - 1) (by omega) (by omega)
    · show b * g = prE _ _ (S.1 + 1)
      have := prE_ins (f := f) (e := e) (g := fun i => if i < j then f i else if i = j then g else f (i - 1)) (d := fun i => if i < j then e i else if i = j then 1 else e (i - 1)) (j := j) (fun i hi => by simp only [if_pos hi]; exact ⟨trivial, trivial⟩) (S.1 - j) (fun i h1 h2 => by
        simp only [if_neg (show ¬ i + 1 < j by omega), if_neg (show ¬ i + 1 = j by omega), Nat.add_sub_cancel]; exact ⟨trivial, trivial⟩)
      rw [show j + (S.1 - j) = S.1 by omega] at this
      rw [this, ← f3]
      simp only [if_neg (Nat.lt_irrefl j), if_true, ma_pow1]
  · rw [e1]
    show FZ ln co (b * g) (S.1, S.2.1, va_up S.2.2 j (S.2.2 j + 1))
    have hj : j < S.1 := by omega
    have e5 : S.2.1 j = co g := (samB_iff (okf j hj) okg).1 e4
    have e6 : f j = g := co_ext h o (by rw [← (f1 j hj).1, e5])
    refine ⟨f, va_up e j (e j + 1), fun i hi => ?_, f2, ?_⟩
    · show S.2.1 i = co (f i) ∧ va_up S.2.2 j (S.2.2 j + 1) i = _ ∧ _
      by_cases hij : i = j
      · subst hij
        have := f1 i hi
        rw [va_up_self, va_up_self, this.2.1]
        exact ⟨this.1, by omega, by omega, this.2.2.2⟩
      · rw [va_up_ne _ _ hij, va_up_ne _ _ hij]
        exact f1 i hi
    · show b * g = prE f (va_up e j (e j + 1)) S.1
      rw [f3, prE_out S.1 hj, prE_out (e := va_up e j (e j + 1)) S.1 hj, va_up_self, Lean.Grind.Semiring.pow_succ, e6]
      have : va_up (va_up e j (e j + 1)) j 0 = va_up e j 0 := by
        funext i
        by_cases hij : i = j
        · rw [hij, va_up_self, va_up_self]
        · rw [va_up_ne _ _ hij, va_up_ne _ _ hij, va_up_ne _ _ hij]
      rw [this]
      grind
/-- candidates: all monic ones of degree e -/
theorem cand_all {p : Nat} (hp : 2 ≤ p) : ∀ (e : Nat) (F : Nat → Int), (∀ x, 0 ≤ F x ∧ F x < p) → ∃ c, c < p ^ e ∧ ∀ x, x < e → ((c / p ^ x % p : Nat) : Int) = F x
  | 0, F, _ => ⟨0, by simp, fun x hx => by omega⟩
  | e + 1, F, hF => by
    obtain ⟨c, c1, c2⟩ := cand_all hp e (fun x => F (x + 1)) (fun x => hF (x + 1))
    have h0 := hF 0
    refine ⟨(F 0).toNat + p * c, ?_, fun x hx => ?_⟩
    · rw [Nat.pow_succ, Nat.mul_comm (p ^ e) p]
      calc (F 0).toNat + p * c < p + p * c := by omega
        _ = p * (c + 1) := by rw [Nat.mul_succ]; omega
        _ ≤ p * p ^ e := Nat.mul_le_mul_left p c1
    · cases x with
      | zero => rw [Nat.pow_zero, Nat.div_one, Nat.add_mul_mod_self_left, Nat.mod_eq_of_lt (by omega)]; omega
      | succ x =>
        have e1 : ((F 0).toNat + p * c) / p ^ (x + 1) = c / p ^ x := by
          rw [Nat.pow_succ, Nat.mul_comm (p ^ x) p, ← Nat.div_div_eq_div_mul, Nat.add_mul_div_left _ _ (by omega), Nat.div_eq_of_lt (show (F 0).toNat < p by omega), Nat.zero_add]
        rw [e1]
        exact c2 x (by omega)
theorem b_cand {p : Nat} {K : Type} [Lean.Grind.CommRing K] {x : K} {ln : K → Nat} {co : K → Nat → Int} (h : KX p K x ln) (o : CO p K x ln co) {e c : Nat} (he : e ≤ 24) : ∃ g, co g = cand p e c ∧ ln g = e + 1 ∧ mnc ln co g := by
  have hp := h.1.two
  obtain ⟨g, e1, l1⟩ := b_of h o (F := cand p e c) (n := e + 1) (cand_ok hp.1 (by omega))
  have e2 := b_dg h o (a := g) (by omega)
  rw [e1, cand_dg (by omega)] at e2
  have l2 : ln g = e + 1 := by omega
  refine ⟨g, e1, l2, fun e3 => by rw [e3, h.2.2.2.2.1] at l2; omega, ?_⟩
  rw [e1, l2]
  unfold cand
  rw [Nat.add_sub_cancel, if_neg (Nat.lt_irrefl e), if_pos rfl]
theorem cand_of {p : Nat} {K : Type} [Lean.Grind.CommRing K] {x : K} {ln : K → Nat} {co : K → Nat → Int} (h : KX p K x ln) (o : CO p K x ln co) {q : K} {e : Nat} (hl : ln q = e + 1) (hm : mnc ln co q) : ∃ c, c < p ^ e ∧ co q = cand p e c := by
  have hp := h.1.two
  obtain ⟨c, c1, c2⟩ := cand_all hp.1 e (co q) (fun y => co_rg h o q y)
  refine ⟨c, c1, funext (fun y => ?_)⟩
  unfold cand
  by_cases h1 : y < e
  · rw [if_pos h1, c2 y h1]
  · rw [if_neg h1]
    by_cases h2 : y = e
    · rw [if_pos h2, h2]
      have := hm.2
      rwa [hl, Nat.add_sub_cancel] at this
    · rw [if_neg h2]
      exact co_z h o (by omega)
/-- what is noted and what is left -/
def FL {K : Type} [Lean.Grind.CommRing K] (ln : K → Nat) (co : K → Nat → Int) (a : K) (s : WK) (r : K) : Prop := ∃ b, s.1 = co r ∧ FZ ln co b s.2 ∧ a = b * r ∧ mnc ln co r ∧ ln r ≤ 25
def NF {K : Type} [Lean.Grind.CommRing K] (p : Nat) (ln : K → Nat) (co : K → Nat → Int) (e c : Nat) (r : K) : Prop := ∀ q, irr ln q → mnc ln co q → mdv q r → e + 1 ≤ ln q ∧ ∀ c', c' < c → co q ≠ cand p e c'
theorem NF.d {K : Type} [Lean.Grind.CommRing K] {p : Nat} {ln : K → Nat} {co : K → Nat → Int} {e c : Nat} {r r' : K} (hn : NF p ln co e c r) (hd : mdv r' r) : NF p ln co e c r' := fun q q1 q2 q3 => hn q q1 q2 (mdv_t q3 hd)
theorem b_tkN {p : Nat} {K : Type} [Lean.Grind.CommRing K] {x : K} {ln : K → Nat} {co : K → Nat → Int} (h : KX p K x ln) (o : CO p K x ln co) {inv : Nat → Int} (hI : invP (p : Int) inv) {a g : K} {e c : Nat} (he : 1 ≤ e ∧ e ≤ 24) (hg : co g = cand p e c) (lg : ln g = e + 1) (mg : mnc ln co g) : ∀ (f : Nat) (s : WK) (r : K), ln r ≤ f → FL ln co a s r → NF p ln co e c r → ∃ r', FL ln co a (tkN (p : Int) inv e (cand p e c) f s) r' ∧ mdv r' r ∧ ¬ mdv g r'
  | 0, s, r, hf, hL, hn => by
    obtain ⟨b, b1, b2, b3, b4, b5⟩ := hL
    exact absurd ((ma_ln0 h).1 (by omega)) b4.1
  | f + 1, s, r, hf, hL, hn => by
    obtain ⟨b, b1, b2, b3, b4, b5⟩ := hL
    have hr0 := b4.1
    unfold tkN
    rw [b1, b_dg h o (a := r) (by omega)]
    by_cases hlt : (ln r : Int) - 1 < (e : Int)
    · rw [if_pos hlt]
      refine ⟨r, ⟨b, b1, b2, b3, b4, b5⟩, mdv_r r, fun hd => ?_⟩
      have := ma_dvle h hd hr0
      omega
    · rw [if_neg hlt, ← hg]
      obtain ⟨q, t, e1, e2, lt⟩ := b_dvm h o hI (a := r) (b := g) (by omega) (by omega) mg.1
      rw [e1]
      show ∃ r', FL ln co a (if dg 300 (co t) < 0 then tkN (p : Int) inv e (co g) f (co q, noteK s.2 (co g) 1) else s) r' ∧ _
      rw [b_dg h o (a := t) (by omega)]
      by_cases ht : t = 0
      · subst ht
        rw [if_pos (by rw [h.2.2.2.2.1]; decide)]
        have eq : r = g * q := by rw [e2]; grind
        have hq0 : q ≠ 0 := fun e => hr0 (by rw [eq, e]; grind)
        have lq := ma_lnmul h g q mg.1 hq0
        rw [← eq] at lq
        have ig : irr ln g := by
          obtain ⟨w, w1, w2, w3⟩ := ma_irr h o _ g (Nat.le_refl _) (by omega)
          have l1 := (hn w w1 w2 (mdv_t w3 ⟨q, eq⟩)).1
          obtain ⟨k, hk⟩ := w3
          have hk0 : k ≠ 0 := fun e => mg.1 (by rw [hk, e]; grind)
          have l2 := ma_lnmul h w k w2.1 hk0
          rw [← hk] at l2
          have := mnc_eq h o w2 mg hk (by omega)
          rw [this.2]
          exact w1
        have hq : FL ln co a (co q, noteK s.2 (co g) 1) q := by
          refine ⟨b * g, rfl, FZ_note h o b2 ig mg (by omega), by rw [b3, eq]; grind, mnc_q h o mg (eq ▸ b4), by omega⟩
        obtain ⟨r', r1, r2, r3⟩ := b_tkN h o hI he hg lg mg f (co q, noteK s.2 (co g) 1) q (by omega) hq (hn.d ⟨g, by rw [eq]; grind⟩)
        rw [← hg] at r1
        exact ⟨r', r1, mdv_t r2 ⟨g, by rw [eq]; grind⟩, r3⟩
      · have lt0 : ln t ≠ 0 := fun e => ht ((ma_ln0 h).1 e)
        rw [if_neg (by omega)]
        refine ⟨r, ⟨b, b1, b2, b3, b4, b5⟩, mdv_r r, fun hd => ht ?_⟩
        exact ma_dv0 h (a := g) (mdv_e (mdv_s hd (mdv_l g q)) (by grind)) lt
theorem b_allL {p : Nat} {K : Type} [Lean.Grind.CommRing K] {x : K} {ln : K → Nat} {co : K → Nat → Int} (h : KX p K x ln) (o : CO p K x ln co) {inv : Nat → Int} (hI : invP (p : Int) inv) {a : K} {e : Nat} (he : 1 ≤ e ∧ e ≤ 24) : ∀ (n c : Nat) (s : WK) (r : K), c + n = p ^ e → 0 < n → FL ln co a s r → NF p ln co e c r → ∃ r', FL ln co a (allL (p : Int) inv e n c s) r' ∧ (NF p ln co (e + 1) 0 r' ∨ (NF p ln co e 0 r' ∧ (ln r' : Int) - 1 < 2 * e))
  | 0, c, s, r, hc, h0, hL, hn => by omega
  | n + 1, c, s, r, hc, h0, hL, hn => by
    obtain ⟨g, g1, g2, g3⟩ := b_cand h o (e := e) (c := c) he.2
    have lr : ln r ≤ 25 := by obtain ⟨b, _, _, _, _, b5⟩ := hL; exact b5
    obtain ⟨r', r1, r2, r3⟩ := b_tkN h o hI he g1 g2 g3 25 s r lr hL hn
    unfold allL
    rw [Int.toNat_natCast]
    obtain ⟨b, b1, b2, b3, b4, b5⟩ := r1
    rw [b1, b_dg h o (a := r') (by omega)]
    have hn' : NF p ln co e (c + 1) r' := fun q q1 q2 q3 => ⟨((hn.d r2) q q1 q2 q3).1, fun c' hc' ee => by
      by_cases hcc : c' = c
      · subst hcc
        have : q = g := co_ext h o (by rw [ee, g1])
        rw [this] at q3
        exact r3 q3
      · exact ((hn.d r2) q q1 q2 q3).2 c' (by omega) ee⟩
    by_cases hd : 2 * (e : Int) ≤ (ln r' : Int) - 1
    · rw [if_pos hd]
      by_cases hn0 : n = 0
      · subst hn0
        refine ⟨r', ⟨b, b1, b2, b3, b4, b5⟩, .inl (fun q q1 q2 q3 => ⟨?_, fun c' hc' => by omega⟩)⟩
        have l1 := (hn' q q1 q2 q3).1
        apply Classical.byContradiction
        intro hlt
        obtain ⟨c', c1, c2⟩ := cand_of h o (q := q) (e := e) (by omega) q2
        exact (hn' q q1 q2 q3).2 c' (by omega) c2
      · exact b_allL h o hI he n (c + 1) _ r' (by omega) (by omega) ⟨b, b1, b2, b3, b4, b5⟩ hn'
    · rw [if_neg hd]
      exact ⟨r', ⟨b, b1, b2, b3, b4, b5⟩, .inr ⟨fun q q1 q2 q3 => ⟨(hn' q q1 q2 q3).1, fun c' hc' => by omega⟩, by omega⟩⟩
theorem facL_stop {pr : Int} {inv : Nat → Int} {s : WK} {e : Nat} (hd : dg 300 s.1 < 2 * (e : Int)) : ∀ n, facL pr inv n e s = s
  | 0 => rfl
  | n + 1 => if_neg (by omega)
theorem b_facL {p : Nat} {K : Type} [Lean.Grind.CommRing K] {x : K} {ln : K → Nat} {co : K → Nat → Int} (h : KX p K x ln) (o : CO p K x ln co) {inv : Nat → Int} (hI : invP (p : Int) inv) {a : K} : ∀ (n e : Nat) (s : WK) (r : K), e + n = 13 → 1 ≤ e → FL ln co a s r → NF p ln co e 0 r → ∃ r' e', FL ln co a (facL (p : Int) inv n e s) r' ∧ NF p ln co e' 0 r' ∧ (ln r' : Int) - 1 < 2 * e'
  | 0, e, s, r, he, h1, hL, hn => by
    have lr : ln r ≤ 25 := by obtain ⟨b, _, _, _, _, b5⟩ := hL; exact b5
    exact ⟨r, e, hL, hn, by omega⟩
  | n + 1, e, s, r, he, h1, hL, hn => by
    have hp := h.1.two
    obtain ⟨b, b1, b2, b3, b4, b5⟩ := hL
    unfold facL
    rw [b1, b_dg h o (a := r) (by omega)]
    by_cases hd : 2 * (e : Int) ≤ (ln r : Int) - 1
    · rw [if_pos hd, Int.toNat_natCast]
      obtain ⟨r', r1, r2⟩ := b_allL h o hI (a := a) ⟨h1, by omega⟩ (p ^ e) 0 s r (by omega) (Nat.pow_pos (by omega)) ⟨b, b1, b2, b3, b4, b5⟩ hn
      rcases r2 with r2 | ⟨r2, r3⟩
      · exact b_facL h o hI n (e + 1) _ r' (by omega) (by omega) r1 r2
      · have e5 : dg 300 (allL (p : Int) inv e (p ^ e) 0 s).1 = (ln r' : Int) - 1 := by
          obtain ⟨b', c1, _, _, _, c5⟩ := r1
          rw [c1, b_dg h o (a := r') (by omega)]
        rw [facL_stop (e := e + 1) (by rw [e5]; omega)]
        exact ⟨r', e, r1, r2, r3⟩
    · rw [if_neg hd]
      exact ⟨r, e, ⟨b, b1, b2, b3, b4, b5⟩, hn, by omega⟩
/-- without a factor of at most half its degree nothing can be cut -/
theorem irr_of {p : Nat} {K : Type} [Lean.Grind.CommRing K] {x : K} {ln : K → Nat} {co : K → Nat → Int} (h : KX p K x ln) (o : CO p K x ln co) {r : K} {e : Nat} (h2 : 2 ≤ ln r) (hn : ∀ q, irr ln q → mnc ln co q → mdv q r → e + 1 ≤ ln q) (hd : (ln r : Int) - 1 < 2 * e) : irr ln r := by
  refine ⟨h2, fun b c eq => ?_⟩
  apply Classical.byContradiction
  intro hbc
  have hr0 : r ≠ 0 := by rintro rfl; rw [h.2.2.2.2.1] at h2; omega
  have hb0 : b ≠ 0 := fun e => hr0 (by rw [eq, e]; grind)
  have hc0 : c ≠ 0 := fun e => hr0 (by rw [eq, e]; grind)
  have l := ma_lnmul h b c hb0 hc0
  rw [← eq] at l
  obtain ⟨q, q1, q2, q3⟩ := ma_irr h o _ b (Nat.le_refl _) (by omega)
  obtain ⟨w, w1, w2, w3⟩ := ma_irr h o _ c (Nat.le_refl _) (by omega)
  have := hn q q1 q2 (mdv_t q3 ⟨c, eq⟩)
  have := hn w w1 w2 (mdv_t w3 ⟨b, by rw [eq]; grind⟩)
  have := ma_dvle h q3 hb0
  have := ma_dvle h w3 hc0
  omega
theorem mnc_const {p : Nat} {K : Type} [Lean.Grind.CommRing K] {x : K} {ln : K → Nat} {co : K → Nat → Int} (h : KX p K x ln) (o : CO p K x ln co) {r : K} (hm : mnc ln co r) (hl : ln r ≤ 1) : r = 1 := (mnc_eq h o (mnc_1 h o) hm (f := 1) (c := r) (by grind) hl).1
theorem b_facR {p : Nat} {K : Type} [Lean.Grind.CommRing K] {x : K} {ln : K → Nat} {co : K → Nat → Int} (h : KX p K x ln) (o : CO p K x ln co) {inv : Nat → Int} (hI : invP (p : Int) inv) {a : K} (h0 : a ≠ 0) (ha : ln a ≤ 25) (K0 : KS) : ∃ u : Nat, (nc u : K) ≠ 0 ∧ mon (p : Int) inv (co a) = co (nc u * a) ∧ mnc ln co (nc u * a) ∧ FZ ln co (nc u * a) (facR (p : Int) inv K0 (co a)) := by
  obtain ⟨u, u1, u2, u3⟩ := b_mon h o hI (a := a) (by omega) h0
  refine ⟨u, u1, u2, u3, ?_⟩
  unfold facR
  rw [u2]
  have l1 := ma_lncm h u1 a
  obtain ⟨r, e, ⟨b, b1, b2, b3, b4, b5⟩, r2, r3⟩ := b_facL h o hI (a := nc u * a) 12 1 (co (nc u * a), (0, K0.2)) (nc u * a) rfl (Nat.le_refl 1) ⟨1, rfl, ⟨fun _ => 1, fun _ => 1, fun i hi => absurd hi (Nat.not_lt_zero i), fun i j hi hj => absurd hj (Nat.not_lt_zero j), rfl⟩, by grind, u3, by omega⟩ (fun q q1 q2 q3 => ⟨q1.1, fun c' hc' => by omega⟩)
  unfold facE
  rw [b1, b_dg h o (a := r) (by omega)]
  by_cases hd : 0 < (ln r : Int) - 1
  · rw [if_pos hd]
    have t := FZ_note h o b2 (irr_of h o (by omega) (fun q q1 q2 q3 => (r2 q q1 q2 q3).1) r3) b4 b5
    rw [← b3] at t
    exact t
  · rw [if_neg hd]
    have e1 : b = nc u * a := by rw [b3, mnc_const h o b4 (by omega)]; grind
    rw [e1] at b2
    exact b2
end MK
