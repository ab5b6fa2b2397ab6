/-! the class's splitting by traces -/
section ML
def prR {K : Type} [Lean.Grind.CommRing K] (f : Nat → K) (n : Nat) : Nat → K
  | 0 => 1
  | k + 1 => prR f n k * f (n + k)
theorem prR_congr {K : Type} [Lean.Grind.CommRing K] {f g : Nat → K} {n : Nat} : ∀ k, (∀ i, n ≤ i → i < n + k → f i = g i) → prR f n k = prR g n k
  | 0, _ => rfl
  | k + 1, e => by
    show prR f n k * f (n + k) = prR g n k * g (n + k)
    rw [prR_congr k (fun i a b => e i a (by omega)), e (n + k) (by omega) (by omega)]
theorem prR_up {K : Type} [Lean.Grind.CommRing K] {f : Nat → K} {n j : Nat} (y : K) : ∀ k, n ≤ j → j < n + k → prR f n k * y = prR (va_up f j y) n k * f j
  | 0, h1, h2 => by omega
  | k + 1, h1, h2 => by
    show prR f n k * f (n + k) * y = prR (va_up f j y) n k * va_up f j y (n + k) * f j
    by_cases e : j = n + k
    · subst e
      rw [va_up_self, prR_congr (f := va_up f (n + k) y) (g := f) k (fun i a b => va_up_ne f y (by omega))]
      grind
    · have i := prR_up (f := f) (j := j) y k h1 (by omega)
      rw [va_up_ne f y (show n + k ≠ j by omega)]
      grind
theorem prR_d {K : Type} [Lean.Grind.CommRing K] {f : Nat → K} {n j : Nat} : ∀ k, n ≤ j → j < n + k → mdv (f j) (prR f n k)
  | 0, h1, h2 => by omega
  | k + 1, h1, h2 => by
    by_cases e : j = n + k
    · subst e; exact mdv_rr _ _
    · exact mdv_mr _ (prR_d k h1 (by omega))
theorem prR_d2 {K : Type} [Lean.Grind.CommRing K] {f : Nat → K} {n i j : Nat} : ∀ k, n ≤ i → i < j → j < n + k → mdv (f i * f j) (prR f n k)
  | 0, h1, h2, h3 => by omega
  | k + 1, h1, h2, h3 => by
    by_cases e : j = n + k
    · subst e
      obtain ⟨c, hc⟩ := prR_d (f := f) k h1 h2
      exact ⟨c, by show prR f n k * f (n + k) = _; rw [hc]; grind⟩
    · exact mdv_mr _ (prR_d2 k h1 h2 (by omega))
theorem prR_ln {p : Nat} {K : Type} [Lean.Grind.CommRing K] {x : K} {ln : K → Nat} (h : KX p K x ln) {f : Nat → K} {n d : Nat} : ∀ k, (∀ i, n ≤ i → i < n + k → f i ≠ 0 ∧ d + 1 ≤ ln (f i)) → prR f n k ≠ 0 ∧ k * d + 1 ≤ ln (prR f n k)
  | 0, _ => ⟨(ma_1 h).2, by show 0 * d + 1 ≤ ln 1; rw [(ma_1 h).1]; omega⟩
  | k + 1, hf => by
    have i := prR_ln h (f := f) k (fun i a b => hf i a (by omega))
    have hl := hf (n + k) (by omega) (by omega)
    have m := ma_lnmul h _ _ i.1 hl.1
    refine ⟨fun e => by rcases ma_nz h e with e | e; exact i.1 e; exact hl.1 e, ?_⟩
    show (k + 1) * d + 1 ≤ ln (prR f n k * f (n + k))
    rw [Nat.add_mul, Nat.one_mul]
    omega
theorem prR_ln2 {p : Nat} {K : Type} [Lean.Grind.CommRing K] {x : K} {ln : K → Nat} (h : KX p K x ln) {f : Nat → K} {n d j : Nat} : ∀ k, (∀ i, n ≤ i → i < n + k → f i ≠ 0 ∧ d + 1 ≤ ln (f i)) → n ≤ j → j < n + k → 2 * d + 1 ≤ ln (f j) → (k + 1) * d + 1 ≤ ln (prR f n k)
  | 0, _, h1, h2, _ => by omega
  | k + 1, hf, h1, h2, hj => by
    have hl := hf (n + k) (by omega) (by omega)
    have i0 := prR_ln h (f := f) (d := d) k (fun i a b => hf i a (by omega))
    have m := ma_lnmul h _ _ i0.1 hl.1
    show (k + 1 + 1) * d + 1 ≤ ln (prR f n k * f (n + k))
    rw [Nat.add_mul, Nat.one_mul, Nat.add_mul, Nat.one_mul]
    by_cases e : j = n + k
    · subst e; omega
    · have i := prR_ln2 h (f := f) k (fun i a b => hf i a (by omega)) h1 (by omega) hj
      rw [Nat.add_mul, Nat.one_mul] at i
      omega
/-- the parts from n on are monic, of degree at least 1, and their product is g -/
def PK {K : Type} [Lean.Grind.CommRing K] (ln : K → Nat) (co : K → Nat → Int) (n : Nat) (g : K) (S0 S : KS) (f : Nat → K) : Prop :=
  n ≤ S.1 ∧ (∀ i, n ≤ i → i < S.1 → S.2.1 i = co (f i) ∧ mnc ln co (f i) ∧ 2 ≤ ln (f i)) ∧ prR f n (S.1 - n) = g ∧ ∀ i, i < n → S.2.1 i = S0.2.1 i ∧ S.2.2 i = S0.2.2 i
/-- what is known of a group: different irreducible factors of degree d -/
def GR {K : Type} [Lean.Grind.CommRing K] (ln : K → Nat) (d n : Nat) (g : K) : Prop := g ≠ 0 ∧ ln g + n ≤ 25 ∧ (∀ q, irr ln q → mdv q g → ln q = d + 1) ∧ ∀ q, irr ln q → ¬ mdv (q * q) g
theorem PK.d {K : Type} [Lean.Grind.CommRing K] {ln : K → Nat} {co : K → Nat → Int} {n : Nat} {g : K} {S0 S : KS} {f : Nat → K} (hP : PK ln co n g S0 S f) {i : Nat} (h1 : n ≤ i) (h2 : i < S.1) : mdv (f i) g := by
  have := prR_d (f := f) (S.1 - n) h1 (by omega)
  rwa [hP.2.2.1] at this
theorem PK.size {p : Nat} {K : Type} [Lean.Grind.CommRing K] {x : K} {ln : K → Nat} (h : KX p K x ln) {co : K → Nat → Int} {n : Nat} {g : K} {S0 S : KS} {f : Nat → K} (hP : PK ln co n g S0 S f) : S.1 - n + 1 ≤ ln g := by
  have := (prR_ln h (f := f) (n := n) (d := 1) (S.1 - n) (fun i a b => ⟨(hP.2.1 i a (by omega)).2.1.1, (hP.2.1 i a (by omega)).2.2⟩)).2
  rw [hP.2.2.1] at this
  omega
def copr {K : Type} [Lean.Grind.CommRing K] (ln : K → Nat) (a b : K) : Prop := ∀ q, irr ln q → mdv q a → ¬ mdv q b
theorem b_sbS {p : Nat} {K : Type} [Lean.Grind.CommRing K] {x : K} {ln : K → Nat} {co : K → Nat → Int} (h : KX p K x ln) (o : CO p K x ln co) {inv : Nat → Int} (hI : invP (p : Int) inv) {n d k v : Nat} {g t : K} {S0 S : KS} {f : Nat → K} (hG : GR ln d n g) (hP : PK ln co n g S0 S f) (hk : n ≤ k ∧ k < S.1) (ht : ln t ≤ 25) (hv : v < p) :
    ∃ f', PK ln co n g S0 (sbS (p : Int) inv (co t) oneP k v S) f' ∧ S.1 ≤ (sbS (p : Int) inv (co t) oneP k v S).1 ∧ (∀ i, n ≤ i → i < S.1 → i ≠ k → f' i = f i) ∧ mdv (f' k) (f k) ∧ (∀ i, S.1 ≤ i → i < (sbS (p : Int) inv (co t) oneP k v S).1 → mdv (f' i) (f k) ∧ mdv (f' i) (t - nc v)) ∧ (copr ln (f' k) (t - nc v) ∨ mdv (f' k) (t - nc v)) := by
  have hp := h.1.two
  have hs := PK.size h hP
  have hfk := hP.2.1 k hk.1 hk.2
  have lk : ln (f k) ≤ ln g := ma_dvle h (hP.d hk.1 hk.2) hG.1
  have hgn := hG.2.1
  have e1 : addS (p : Int) (co t) ((p : Int) - v) 0 oneP = co (t - nc v) := by
    rw [← b_one h o, show (p : Int) - (v : Int) = ((p - v : Nat) : Int) by omega, b_addS h o]
    congr 1
    have e5 : (nc (p - v) : K) + nc v = 0 := by rw [← nc_add, Nat.sub_add_cancel (by omega)]; exact h.2.1
    rw [Lean.Grind.Semiring.pow_zero]
    grind
  have ltv : ln (t - nc v) ≤ 26 := by
    have := ma_lnsub h t (nc v)
    have := ma_lnc h v
    omega
  obtain ⟨c, s1, s2, e2, e3, d1, d2, mc⟩ := b_gcd h o hI (a := f k) (b := t - nc v) (by omega) ltv (.inl hfk.2.1.1)
  have lc : ln c ≤ ln (f k) := ma_dvle h d1 hfk.2.1.1
  have lc0 : ln c ≠ 0 := fun e => mc.1 ((ma_ln0 h).1 e)
  have esb : sbC (p : Int) inv (co t) oneP k v S = co c := by unfold sbC; rw [hfk.1, e1, e2]
  have gcdd : ∀ q, mdv q (f k) → mdv q (t - nc v) → mdv q c := fun q q1 q2 => by rw [e3]; exact mdv_a (mdv_ml _ q1) (mdv_ml _ q2)
  unfold sbS
  rw [esb, hfk.1, b_dg h o (a := c) (by omega), b_dg h o (a := f k) (by omega)]
  by_cases hc : 0 < (ln c : Int) - 1 ∧ (ln c : Int) - 1 < (ln (f k) : Int) - 1
  · rw [if_pos hc]
    obtain ⟨q, r, e4, e5, lr⟩ := b_dvm h o hI (a := f k) (b := c) (by omega) (by omega) mc.1
    have hr : r = 0 := ma_dv0 h (a := c) (mdv_e (mdv_s d1 (mdv_l c q)) (by grind)) lr
    subst hr
    have e6 : f k = c * q := by rw [e5]; grind
    have mq : mnc ln co q := mnc_q h o mc (e6 ▸ hfk.2.1)
    have lq := ma_lnmul h c q mc.1 mq.1
    rw [← e6] at lq
    rw [e4]
    have hP2 := hP.2.2.1
    have up := prR_up (f := f) (j := k) q (S.1 - n) hk.1 (by omega)
    have e7 : prR f n (S.1 - n) = prR (va_up f k q) n (S.1 - n) * c := by
      have : q * prR f n (S.1 - n) = q * (prR (va_up f k q) n (S.1 - n) * c) := by rw [e6] at up; grind
      exact ma_cancel h mq.1 this
    have hsz : S.1 < 24 := by
      have := (prR_ln h (f := va_up f k q) (n := n) (d := 1) (S.1 - n) (fun i a b => by
        by_cases hik : i = k
        · subst hik; rw [va_up_self]; exact ⟨mq.1, by omega⟩
        · rw [va_up_ne _ _ hik]
          exact ⟨(hP.2.1 i a (by omega)).2.1.1, (hP.2.1 i a (by omega)).2.2⟩))
      have m2 := ma_lnmul h _ _ this.1 mc.1
      rw [← e7, hP2] at m2
      omega
    have eapp : appK (S.1, va_up S.2.1 k (co q), S.2.2) (co c) 0 = (S.1 + 1, va_up (va_up S.2.1 k (co q)) S.1 (co c), va_up S.2.2 S.1 0) := if_pos hsz
    show ∃ f', PK ln co n g S0 (appK (S.1, va_up S.2.1 k (co q), S.2.2) (co c) 0) f' ∧ _
    rw [eapp]
    refine ⟨va_up (va_up f k q) S.1 c, ⟨by show n ≤ S.1 + 1; omega, fun i a b => ?_, ?_, fun i hi => ?_⟩, by show S.1 ≤ S.1 + 1; omega, fun i a b hik => ?_, ?_, fun i a b => ?_, .inl ?_⟩
    · have b2 : i < S.1 + 1 := b
      show va_up (va_up S.2.1 k (co q)) S.1 (co c) i = co (va_up (va_up f k q) S.1 c i) ∧ _
      by_cases h1 : i = S.1
      · subst h1
        rw [va_up_self, va_up_self]
        exact ⟨rfl, mc, by omega⟩
      · rw [va_up_ne _ _ h1, va_up_ne _ _ h1]
        by_cases h2 : i = k
        · subst h2
          rw [va_up_self, va_up_self]
          exact ⟨rfl, mq, by omega⟩
        · rw [va_up_ne _ _ h2, va_up_ne _ _ h2]
          exact hP.2.1 i a (by omega)
    · show prR (va_up (va_up f k q) S.1 c) n (S.1 + 1 - n) = g
      rw [show S.1 + 1 - n = (S.1 - n) + 1 by omega]
      show prR (va_up (va_up f k q) S.1 c) n (S.1 - n) * va_up (va_up f k q) S.1 c (n + (S.1 - n)) = g
      rw [show n + (S.1 - n) = S.1 by omega, va_up_self, prR_congr (f := va_up (va_up f k q) S.1 c) (g := va_up f k q) (S.1 - n) (fun i a b => va_up_ne _ _ (by omega)), ← e7, hP2]
    · show va_up (va_up S.2.1 k (co q)) S.1 (co c) i = S0.2.1 i ∧ va_up S.2.2 S.1 0 i = S0.2.2 i
      rw [va_up_ne _ _ (by omega), va_up_ne _ _ (by omega), va_up_ne _ _ (by omega)]
      exact hP.2.2.2 i hi
    · rw [va_up_ne _ _ (by omega), va_up_ne _ _ hik]
    · rw [va_up_ne _ _ (by omega), va_up_self]
      exact ⟨c, by rw [e6]; grind⟩
    · have b2 : i < S.1 + 1 := b
      rw [show i = S.1 by omega, va_up_self]
      exact ⟨d1, d2⟩
    · rw [va_up_ne _ _ (by omega), va_up_self]
      intro w w1 w2 w3
      have w4 := gcdd w (mdv_t w2 ⟨c, by rw [e6]; grind⟩) w3
      obtain ⟨y, hy⟩ := w2
      obtain ⟨z, hz⟩ := w4
      exact hG.2.2.2 w w1 (mdv_t ⟨y * z, by rw [e6, hy, hz]; grind⟩ (hP.d hk.1 hk.2))
  · rw [if_neg hc]
    refine ⟨f, hP, Nat.le_refl _, fun i _ _ _ => rfl, mdv_r _, fun i a b => by omega, ?_⟩
    by_cases hc1 : ln c ≤ 1
    · left
      intro w w1 w2 w3
      have w4 := gcdd w w2 w3
      exact w1.nu h mc.1 hc1 w4
    · right
      obtain ⟨y, hy⟩ := d1
      have hy0 : y ≠ 0 := fun e => hfk.2.1.1 (by rw [hy, e]; grind)
      have m := ma_lnmul h c y mc.1 hy0
      rw [← hy] at m
      have := (mnc_eq h o mc hfk.2.1 hy (by omega)).2
      rw [this]
      exact d2
/-- one part against all numbers of the field -/
theorem b_sbV {p : Nat} {K : Type} [Lean.Grind.CommRing K] {x : K} {ln : K → Nat} {co : K → Nat → Int} (h : KX p K x ln) (o : CO p K x ln co) {inv : Nat → Int} (hI : invP (p : Int) inv) {n d k : Nat} {g t : K} {S0 : KS} (hd : 1 ≤ d) (hG : GR ln d n g) (ht : ln t ≤ 25) (htv : ∀ q, irr ln q → mdv q g → ∃ v, v < p ∧ mdv q (t - nc v)) :
    ∀ (m v : Nat) (S : KS) (f : Nat → K), v + m = p → PK ln co n g S0 S f → n ≤ k → k < S.1 → ((∀ w, w < v → copr ln (f k) (t - nc w)) ∨ ∃ w, mdv (f k) (t - nc w)) →
    ∃ f', PK ln co n g S0 (sbV (p : Int) inv (co t) oneP d k v m S) f' ∧ S.1 ≤ (sbV (p : Int) inv (co t) oneP d k v m S).1 ∧ (∀ i, n ≤ i → i < S.1 → i ≠ k → f' i = f i) ∧ mdv (f' k) (f k) ∧ (∀ i, S.1 ≤ i → i < (sbV (p : Int) inv (co t) oneP d k v m S).1 → mdv (f' i) (f k) ∧ ∃ w, mdv (f' i) (t - nc w)) ∧ ∃ w, mdv (f' k) (t - nc w)
  | 0, v, S, f, hm, hP, k1, k2, hc => by
    refine ⟨f, hP, Nat.le_refl _, fun i _ _ _ => rfl, mdv_r _, fun i a b => by have : i < S.1 := b; omega, ?_⟩
    rcases hc with hc | hc
    · have hfk := hP.2.1 k k1 k2
      obtain ⟨q, q1, q2, q3⟩ := ma_irr h o _ (f k) (Nat.le_refl _) hfk.2.2
      obtain ⟨w, w1, w2⟩ := htv q q1 (mdv_t q3 (hP.d k1 k2))
      exact absurd w2 (hc w (by omega) q q1 q3)
    · exact hc
  | m + 1, v, S, f, hm, hP, k1, k2, hc => by
    have hfk := hP.2.1 k k1 k2
    have lk : ln (f k) ≤ ln g := ma_dvle h (hP.d k1 k2) hG.1
    have hgn := hG.2.1
    unfold sbV
    rw [hfk.1, b_dg h o (a := f k) (by omega)]
    by_cases hdd : (d : Int) < (ln (f k) : Int) - 1
    · rw [if_pos hdd]
      obtain ⟨f1, a1, a2, a3, a4, a5, a6⟩ := b_sbS h o hI (S := S) (f := f) hG hP ⟨k1, k2⟩ ht (v := v) (by omega)
      have hc' : (∀ w, w < v + 1 → copr ln (f1 k) (t - nc w)) ∨ ∃ w, mdv (f1 k) (t - nc w) := by
        rcases a6 with a6 | a6
        · rcases hc with hc | ⟨w, hc⟩
          · left
            intro w hw q q1 q2
            by_cases hwv : w = v
            · rw [hwv]; exact a6 q q1 q2
            · exact hc w (by omega) q q1 (mdv_t q2 a4)
          · exact .inr ⟨w, mdv_t a4 hc⟩
        · exact .inr ⟨v, a6⟩
      obtain ⟨f2, c1, c2, c3, c4, c5, c6⟩ := b_sbV h o hI hd hG ht htv m (v + 1) (sbS (p : Int) inv (co t) oneP k v S) f1 (by omega) a1 k1 (by omega) hc'
      refine ⟨f2, c1, by omega, fun i i1 i2 i3 => by rw [c3 i i1 (by omega) i3, a3 i i1 i2 i3], mdv_t c4 a4, fun i i1 i2 => ?_, c6⟩
      by_cases hi : i < (sbS (p : Int) inv (co t) oneP k v S).1
      · rw [c3 i (by have := hP.1; omega) hi (by omega)]
        exact ⟨(a5 i i1 hi).1, v, (a5 i i1 hi).2⟩
      · have := c5 i (by omega) i2
        exact ⟨mdv_t this.1 a4, this.2⟩
    · rw [if_neg hdd]
      refine ⟨f, hP, Nat.le_refl _, fun i _ _ _ => rfl, mdv_r _, fun i a b => by omega, ?_⟩
      obtain ⟨q, q1, q2, q3⟩ := ma_irr h o _ (f k) (Nat.le_refl _) hfk.2.2
      have lq := hG.2.2.1 q q1 (mdv_t q3 (hP.d k1 k2))
      obtain ⟨w, w1, w2⟩ := htv q q1 (mdv_t q3 (hP.d k1 k2))
      obtain ⟨y, hy⟩ := q3
      have hy0 : y ≠ 0 := fun e => hfk.2.1.1 (by rw [hy, e]; grind)
      have mm := ma_lnmul h q y q2.1 hy0
      rw [← hy] at mm
      have := (mnc_eq h o q2 hfk.2.1 hy (by omega)).2
      rw [this]
      exact ⟨w, w2⟩
theorem b_sbK {p : Nat} {K : Type} [Lean.Grind.CommRing K] {x : K} {ln : K → Nat} {co : K → Nat → Int} (h : KX p K x ln) (o : CO p K x ln co) {inv : Nat → Int} (hI : invP (p : Int) inv) {n d : Nat} {g t : K} {S0 : KS} (hd : 1 ≤ d) (hG : GR ln d n g) (ht : ln t ≤ 25) (htv : ∀ q, irr ln q → mdv q g → ∃ v, v < p ∧ mdv q (t - nc v)) :
    ∀ (m k : Nat) (S : KS) (f : Nat → K), PK ln co n g S0 S f → n ≤ k → k + m ≤ S.1 → (∀ i, n ≤ i → i < S.1 → i < k ∨ k + m ≤ i → ∃ w, mdv (f i) (t - nc w)) →
    ∃ f', PK ln co n g S0 (sbK (p : Int) inv (co t) oneP d k m S) f' ∧ S.1 ≤ (sbK (p : Int) inv (co t) oneP d k m S).1 ∧ ∀ i, n ≤ i → i < (sbK (p : Int) inv (co t) oneP d k m S).1 → (∃ w, mdv (f' i) (t - nc w)) ∧ ∃ j, n ≤ j ∧ j < S.1 ∧ mdv (f' i) (f j)
  | 0, k, S, f, hP, k1, k2, hgd => ⟨f, hP, Nat.le_refl _, fun i i1 i2 => ⟨hgd i i1 i2 (by omega), i, i1, i2, mdv_r _⟩⟩
  | m + 1, k, S, f, hP, k1, k2, hgd => by
    have hp := h.1.two
    unfold sbK
    rw [Int.toNat_natCast]
    obtain ⟨f1, a1, a2, a3, a4, a5, a6⟩ := b_sbV h o hI (k := k) hd hG ht htv p 0 S f (by omega) hP k1 (by omega) (.inl (fun w hw => by omega))
    obtain ⟨f2, c1, c2, c3⟩ := b_sbK h o hI hd hG ht htv m (k + 1) (sbV (p : Int) inv (co t) oneP d k 0 p S) f1 a1 (by omega) (by omega) (fun i i1 i2 i3 => by
      by_cases hik : i = k
      · rw [hik]; exact a6
      by_cases hiS : i < S.1
      · rw [a3 i i1 hiS hik]; exact hgd i i1 hiS (by omega)
      · exact (a5 i (by omega) i2).2)
    refine ⟨f2, c1, by omega, fun i i1 i2 => ⟨(c3 i i1 i2).1, ?_⟩⟩
    obtain ⟨j, j1, j2, j3⟩ := (c3 i i1 i2).2
    by_cases hjS : j < S.1
    · by_cases hjk : j = k
      · exact ⟨k, k1, by omega, mdv_t (hjk ▸ j3) a4⟩
      · rw [a3 j j1 hjS hjk] at j3
        exact ⟨j, j1, hjS, j3⟩
    · exact ⟨k, k1, by omega, mdv_t j3 (a5 j (by omega) j2).1⟩
/-- the trace modulo the group -/
theorem b_trL {p : Nat} {K : Type} [Lean.Grind.CommRing K] {x : K} {ln : K → Nat} {co : K → Nat → Int} (h : KX p K x ln) (o : CO p K x ln co) {inv : Nat → Int} (hI : invP (p : Int) inv) {g u : K} (lg : ln g ≤ 25) (hg0 : g ≠ 0) : ∀ (n j : Nat) (y t : K), ln y < ln g → ln t < ln g → mdv g (u ^ (p ^ j) - y) → mdv g (trc p (j + 1) u - t) → ∃ y' t', trL (p : Int) inv (co g) n (co y, co t) = (co y', co t') ∧ ln t' < ln g ∧ mdv g (trc p (j + 1 + n) u - t')
  | 0, j, y, t, ly, lt, d1, d2 => ⟨y, t, rfl, lt, d2⟩
  | n + 1, j, y, t, ly, lt, d1, d2 => by
    obtain ⟨r, e1, l1, d3⟩ := b_frm h o hI (a := y) (m := g) (by omega) (by omega) hg0
    have e2 : addS (p : Int) (co t) 1 0 (co r) = co (t + r) := by
      rw [show (1 : Int) = ((1 : Nat) : Int) from rfl, b_addS h o, Lean.Grind.Semiring.pow_zero]
      congr 1
      grind
    have d4 : mdv g (u ^ (p ^ (j + 1)) - r) := by
      rw [ma_pows]
      exact mdv_tr (mdv_pow d1 p) d3
    have d5 : mdv g (trc p (j + 1 + 1) u - (t + r)) := mdv_e (mdv_a d2 d4) (by show _ = trc p (j + 1) u + u ^ (p ^ (j + 1)) - (t + r); grind)
    have l2 := ma_lnadd h t r
    obtain ⟨y', t', g1, g2, g3⟩ := b_trL h o hI (u := u) lg hg0 n (j + 1) r (t + r) l1 (by omega) d4 d5
    refine ⟨y', t', ?_, g2, by rw [show j + 1 + (n + 1) = j + 1 + 1 + n by omega]; exact g3⟩
    show trL (p : Int) inv (co g) n (frm (p : Int) inv (co y) (co g), addS (p : Int) (co t) 1 0 (frm (p : Int) inv (co y) (co g))) = _
    rw [e1, e2]
    exact g1
theorem b_splL {p : Nat} {K : Type} [Lean.Grind.CommRing K] {x : K} {ln : K → Nat} {co : K → Nat → Int} (h : KX p K x ln) (o : CO p K x ln co) {inv : Nat → Int} (hI : invP (p : Int) inv) {n d : Nat} {g : K} {S0 : KS} (hd : 1 ≤ d) (hG : GR ln d n g) (lg2 : 2 ≤ ln g) (due : Int) :
    ∀ (m i : Nat) (S : KS) (f : Nat → K) (pw : K), i + m = 25 → 1 ≤ i → PK ln co n g S0 S f → ln pw < ln g → mdv g (x ^ (i - 1) - pw) → (∀ j, 1 ≤ j → j < i → ∀ k, n ≤ k → k < S.1 → ∃ w, mdv (f k) (trc p d (x ^ j) - nc w)) →
    ∃ f', PK ln co n g S0 (splL (p : Int) inv xP oneP (co g) d n due m i S (co pw)) f' ∧ (due ≤ ((splL (p : Int) inv xP oneP (co g) d n due m i S (co pw)).1 : Int) ∨ ∀ j, 1 ≤ j → j < ln g - 1 → ∀ k, n ≤ k → k < (splL (p : Int) inv xP oneP (co g) d n due m i S (co pw)).1 → ∃ w, mdv (f' k) (trc p d (x ^ j) - nc w))
  | 0, i, S, f, pw, hm, hi, hP, lp, dp, hgd => ⟨f, hP, .inr (fun j j1 j2 k k1 k2 => hgd j j1 (by have := hG.2.1; omega) k k1 k2)⟩
  | m + 1, i, S, f, pw, hm, hi, hP, lp, dp, hgd => by
    have hp := h.1.two
    have hgn := hG.2.1
    have lx := (ma_lx h).1
    unfold splL
    rw [b_dg h o (a := g) (by omega)]
    by_cases hc : (i : Int) < (ln g : Int) - 1 ∧ (S.1 : Int) < due
    · rw [if_pos hc]
      obtain ⟨pw', e1, l1, d1⟩ := b_mulm h o hI (a := x) (b := pw) (m := g) (by omega) (by omega) (by omega) hG.1
      have d2 : mdv g (x ^ i - pw') := by
        rw [show i = (i - 1) + 1 by omega, Lean.Grind.Semiring.pow_succ]
        exact mdv_e (mdv_a (mdv_ml x dp) d1) (by grind)
      rw [← b_x h o, e1]
      obtain ⟨y', t, e2, l2, d3⟩ := b_trL h o hI (g := g) (u := x ^ i) (by omega) hG.1 (d - 1) 0 pw' pw' l1 l1 (by rw [ma_pow00]; exact d2) (by
        show mdv g (0 + (x ^ i) ^ (p ^ 0) - pw')
        rw [ma_pow00]
        exact mdv_e d2 (by grind))
      rw [e2, show 0 + 1 + (d - 1) = d by omega] at *
      show ∃ f', PK ln co n g S0 (splL (p : Int) inv (co x) oneP (co g) d n due m (i + 1) (sbK (p : Int) inv (co t) oneP d n (S.1 - n) S) (co pw')) f' ∧ _
      have htv : ∀ q, irr ln q → mdv q g → ∃ v, v < p ∧ mdv q (t - nc v) := by
        intro q q1 q2
        obtain ⟨v, v1, v2⟩ := trc_v h q1 (x ^ i)
        rw [hG.2.2.1 q q1 q2, Nat.add_sub_cancel] at v2
        exact ⟨v, v1, mdv_e (mdv_s v2 (mdv_t q2 d3)) (by grind)⟩
      obtain ⟨f1, a1, a2, a3⟩ := b_sbK h o hI hd hG (t := t) (by omega) htv (S.1 - n) n S f hP (Nat.le_refl _) (by have := hP.1; omega) (fun k k1 k2 k3 => by have := hP.1; omega)
      have key := b_splL h o hI hd hG lg2 due m (i + 1) (sbK (p : Int) inv (co t) oneP d n (S.1 - n) S) f1 pw' (by omega) (by omega) a1 l1 (by rw [Nat.add_sub_cancel]; exact d2) (fun j j1 j2 k k1 k2 => by
        by_cases hji : j = i
        · subst hji
          obtain ⟨w, hw⟩ := (a3 k k1 k2).1
          exact ⟨w, mdv_e (mdv_a (mdv_t (a1.d k1 k2) d3) hw) (by grind)⟩
        · obtain ⟨k', c1, c2, c3⟩ := (a3 k k1 k2).2
          obtain ⟨w, hw⟩ := hgd j j1 (by omega) k' c1 c2
          exact ⟨w, mdv_t c3 hw⟩)
      rw [← b_x h o] at key
      exact key
    · rw [if_neg hc]
      refine ⟨f, hP, ?_⟩
      by_cases hdue : due ≤ (S.1 : Int)
      · exact .inl hdue
      · exact .inr (fun j j1 j2 k k1 k2 => hgd j j1 (by omega) k k1 k2)
end ML
