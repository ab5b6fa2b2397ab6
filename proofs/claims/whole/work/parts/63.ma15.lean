/-! the class's cutting -/
section MM
/-- after the splitting every part is irreducible, and no two are one -/
theorem b_splK {p : Nat} {K : Type} [Lean.Grind.CommRing K] {x : K} {ln : K → Nat} {co : K → Nat → Int} (h : KX p K x ln) (o : CO p K x ln co) {inv : Nat → Int} (hI : invP (p : Int) inv) {d : Nat} {g : K} {S : KS} (hd : 1 ≤ d) (hG : GR ln d S.1 g) (mg : mnc ln co g) (lg2 : 2 ≤ ln g) :
    ∃ f, PK ln co S.1 g S (splK (p : Int) inv xP oneP (co g) d S) f ∧ (∀ i, S.1 ≤ i → i < (splK (p : Int) inv xP oneP (co g) d S).1 → irr ln (f i)) ∧ ∀ i j, S.1 ≤ i → i < j → j < (splK (p : Int) inv xP oneP (co g) d S).1 → f i ≠ f j := by
  have hgn := hG.2.1
  have eapp : appK S (co g) 0 = (S.1 + 1, va_up S.2.1 S.1 (co g), va_up S.2.2 S.1 0) := if_pos (by omega)
  have hP0 : PK ln co S.1 g S (appK S (co g) 0) (fun _ => g) := by
    rw [eapp]
    refine ⟨by show S.1 ≤ S.1 + 1; omega, fun i a b => ?_, ?_, fun i hi => ?_⟩
    · have b2 : i < S.1 + 1 := b
      show va_up S.2.1 S.1 (co g) i = _ ∧ _
      rw [show i = S.1 by omega, va_up_self]
      exact ⟨rfl, mg, lg2⟩
    · show prR (fun _ => g) S.1 (S.1 + 1 - S.1) = g
      rw [show S.1 + 1 - S.1 = 0 + 1 by omega]
      show (1 : K) * g = g
      grind
    · exact ⟨va_up_ne _ _ (by omega), va_up_ne _ _ (by omega)⟩
  have l1 := (ma_1 h).1
  obtain ⟨f, hP, hor⟩ := b_splL h o hI hd hG lg2 ((S.1 : Int) + dg 300 (co g) / d) 24 1 (appK S (co g) 0) (fun _ => g) 1 rfl (Nat.le_refl 1) hP0 (by omega) (by rw [Nat.sub_self, Lean.Grind.Semiring.pow_zero]; exact mdv_rf g 1) (fun j j1 j2 => by omega)
  rw [b_one h o] at hP hor
  have es : splK (p : Int) inv xP oneP (co g) d S = splL (p : Int) inv xP oneP (co g) d S.1 ((S.1 : Int) + dg 300 (co g) / d) 24 1 (appK S (co g) 0) oneP := rfl
  rw [← es] at hP hor
  generalize splK (p : Int) inv xP oneP (co g) d S = T at hP hor
  have low : ∀ i, S.1 ≤ i → i < T.1 → d + 1 ≤ ln (f i) := fun i a b => by
    obtain ⟨q, q1, q2, q3⟩ := ma_irr h o _ (f i) (Nat.le_refl _) (hP.2.1 i a b).2.2
    have := hG.2.2.1 q q1 (mdv_t q3 (hP.d a b))
    have := ma_dvle h q3 (hP.2.1 i a b).2.1.1
    omega
  have two : ∀ i b c, S.1 ≤ i → i < T.1 → f i = b * c → 2 ≤ ln b → 2 ≤ ln c → ∃ q w, irr ln q ∧ irr ln w ∧ mnc ln co q ∧ mnc ln co w ∧ mdv q b ∧ mdv w c ∧ ln q = d + 1 ∧ ln w = d + 1 := by
    intro i b c a1 a2 e lb lc
    obtain ⟨q, q1, q2, q3⟩ := ma_irr h o _ b (Nat.le_refl _) lb
    obtain ⟨w, w1, w2, w3⟩ := ma_irr h o _ c (Nat.le_refl _) lc
    exact ⟨q, w, q1, w1, q2, w2, q3, w3, hG.2.2.1 q q1 (mdv_t (mdv_t q3 ⟨c, e⟩) (hP.d a1 a2)), hG.2.2.1 w w1 (mdv_t (mdv_t w3 ⟨b, by rw [e]; grind⟩) (hP.d a1 a2))⟩
  have hirr : ∀ i, S.1 ≤ i → i < T.1 → irr ln (f i) := by
    intro i a1 a2
    refine ⟨(hP.2.1 i a1 a2).2.2, fun b c e => ?_⟩
    apply Classical.byContradiction
    intro hbc
    obtain ⟨q, w, q1, w1, q2, w2, q3, w3, lq, lw⟩ := two i b c a1 a2 e (by omega) (by omega)
    have hf0 := (hP.2.1 i a1 a2).2.1.1
    have hb0 : b ≠ 0 := fun e2 => hf0 (by rw [e, e2]; grind)
    have hc0 : c ≠ 0 := fun e2 => hf0 (by rw [e, e2]; grind)
    rcases hor with hdue | hall
    · rw [b_dg h o (a := g) (by omega), show (ln g : Int) - 1 = ((ln g - 1 : Nat) : Int) by omega, ← Int.natCast_ediv] at hdue
      have m := ma_lnmul h b c hb0 hc0
      rw [← e] at m
      have := ma_dvle h q3 hb0
      have := ma_dvle h w3 hc0
      have key := prR_ln2 h (f := f) (n := S.1) (d := d) (j := i) (T.1 - S.1) (fun k b1 b2 => ⟨(hP.2.1 k b1 (by omega)).2.1.1, low k b1 (by omega)⟩) a1 (by omega) (by omega)
      rw [hP.2.2.1] at key
      have hT := hP.1
      have k2 : (ln g - 1) / d ≤ T.1 - S.1 := by omega
      have k3 : ln g - 1 < ((ln g - 1) / d + 1) * d := by
        have := Nat.div_add_mod (ln g - 1) d
        have := Nat.mod_lt (ln g - 1) (show d > 0 by omega)
        rw [Nat.add_mul, Nat.one_mul, Nat.mul_comm ((ln g - 1) / d) d]
        omega
      have k4 : ((ln g - 1) / d + 1) * d ≤ (T.1 - S.1 + 1) * d := Nat.mul_le_mul_right d (by omega)
      omega
    · have hqw : mdv q w := by
        refine ma_sep h q1 w1 (lq.trans lw.symm) hG.1 (mdv_t (mdv_t q3 ⟨c, e⟩) (hP.d a1 a2)) (mdv_t (mdv_t w3 ⟨b, by rw [e]; grind⟩) (hP.d a1 a2)) (fun j hj => ?_)
        rw [lq, Nat.add_sub_cancel]
        by_cases hj0 : j = 0
        · subst hj0
          have e0 : ∀ n, ∃ v, trc p n ((x : K) ^ 0) = nc v := by
            intro n
            induction n with
            | zero => exact ⟨0, by show (0 : K) = nc 0; grind⟩
            | succ n ih =>
              obtain ⟨v, hv⟩ := ih
              refine ⟨v + 1, ?_⟩
              show trc p n (x ^ 0) + (x ^ 0) ^ (p ^ n) = nc (v + 1)
              rw [hv, Lean.Grind.Semiring.pow_zero, nc_add]
              have e1 := ma_cpowm h n 1
              rw [show (nc 1 : K) = 1 by grind] at e1
              rw [e1]
              grind
          obtain ⟨v, hv⟩ := e0 d
          exact ⟨v, by rw [hv]; exact mdv_e (mdv_0 q) (by grind), by rw [hv]; exact mdv_e (mdv_0 w) (by grind)⟩
        · obtain ⟨v, hv⟩ := hall j (by omega) hj i a1 a2
          exact ⟨v, mdv_t (mdv_t q3 ⟨c, e⟩) hv, mdv_t (mdv_t w3 ⟨b, by rw [e]; grind⟩) hv⟩
      have eqw := mnc_irr h o q2 w2 q1 w1 hqw
      subst eqw
      obtain ⟨y, hy⟩ := q3
      obtain ⟨z, hz⟩ := w3
      exact hG.2.2.2 q q1 (mdv_t ⟨y * z, by rw [e, hy, hz]; grind⟩ (hP.d a1 a2))
  refine ⟨f, hP, hirr, fun i j a1 a2 a3 e => ?_⟩
  have := prR_d2 (f := f) (T.1 - S.1) a1 a2 (by omega)
  rw [hP.2.2.1, ← e] at this
  exact hG.2.2.2 _ (hirr i a1 (by omega)) this
/-- taking one factor out as often as it goes -/
theorem b_tko {p : Nat} {K : Type} [Lean.Grind.CommRing K] {x : K} {ln : K → Nat} {co : K → Nat → Int} (h : KX p K x ln) (o : CO p K x ln co) {inv : Nat → Int} (hI : invP (p : Int) inv) {q : K} (lq2 : 2 ≤ ln q) (lq : ln q ≤ 25) : ∀ (f i : Nat) (r : K), r ≠ 0 → ln r ≤ f + 1 → ln r ≤ 25 → ∃ e r', tko (p : Int) inv (co q) f i (co r) = (i + e, co r') ∧ r = q ^ e * r' ∧ ¬ mdv q r' := by
  have hq0 : q ≠ 0 := by rintro rfl; rw [h.2.2.2.2.1] at lq2; omega
  intro f
  induction f with
  | zero =>
    intro i r hr lr _
    refine ⟨0, r, rfl, by rw [Lean.Grind.Semiring.pow_zero]; grind, fun hd => ?_⟩
    have := ma_dvle h hd hr
    omega
  | succ f ih =>
    intro i r hr lr lr2
    obtain ⟨s, t, e1, e2, lt⟩ := b_dvm h o hI (a := r) (b := q) (by omega) (by omega) hq0
    unfold tko
    rw [e1]
    show ∃ e r', (if 0 ≤ dg 300 (co t) then (i, co r) else tko (p : Int) inv (co q) f (i + 1) (co s)) = (i + e, co r') ∧ _
    rw [b_dg h o (a := t) (by omega)]
    by_cases ht : t = 0
    · subst ht
      rw [if_neg (by rw [h.2.2.2.2.1]; decide)]
      have e3 : r = q * s := by rw [e2]; grind
      have hs : s ≠ 0 := fun e => hr (by rw [e3, e]; grind)
      have m := ma_lnmul h q s hq0 hs
      rw [← e3] at m
      obtain ⟨e, r', g1, g2, g3⟩ := ih (i + 1) s hs (by omega) (by omega)
      refine ⟨e + 1, r', by rw [g1]; congr 1; omega, ?_, g3⟩
      rw [Lean.Grind.Semiring.pow_succ, e3, g2]
      grind
    · have lt0 : ln t ≠ 0 := fun e => ht ((ma_ln0 h).1 e)
      rw [if_pos (by omega)]
      refine ⟨0, r, rfl, by rw [Lean.Grind.Semiring.pow_zero]; grind, fun hd => ht ?_⟩
      exact ma_dv0 h (a := q) (mdv_e (mdv_s hd (mdv_l q s)) (by grind)) lt
/-- a list of different factors, in any order -/
def UZ {K : Type} [Lean.Grind.CommRing K] (ln : K → Nat) (co : K → Nat → Int) (n : Nat) (S : KS) (f : Nat → K) (e : Nat → Nat) : Prop :=
  (∀ i, i < n → S.2.1 i = co (f i) ∧ S.2.2 i = (e i : Int) ∧ 1 ≤ e i ∧ irr ln (f i) ∧ mnc ln co (f i) ∧ ln (f i) ≤ 25) ∧ ∀ i j, i < j → j < n → f i ≠ f j
theorem b_tofK {p : Nat} {K : Type} [Lean.Grind.CommRing K] {x : K} {ln : K → Nat} {co : K → Nat → Int} (h : KX p K x ln) (o : CO p K x ln co) {inv : Nat → Int} (hI : invP (p : Int) inv) {a : K} {N : Nat} {f : Nat → K} : ∀ (m k : Nat) (S : KS) (e : Nat → Nat) (r : K), S.1 = N → k + m = N → UZ ln co k S f e → (∀ i, k ≤ i → i < N → S.2.1 i = co (f i) ∧ irr ln (f i) ∧ mnc ln co (f i) ∧ mdv (f i) r) → (∀ i j, i < j → j < N → f i ≠ f j) → a = prE f e k * r → mnc ln co r → k + ln r ≤ 25 → (∀ i, i < k → ¬ mdv (f i) r) →
    ∃ e' r' S', tofK (p : Int) inv k m S (co r) = (S', co r') ∧ S'.1 = N ∧ UZ ln co N S' f e' ∧ a = prE f e' N * r' ∧ mnc ln co r' ∧ N + ln r' ≤ 25 ∧ (∀ i, i < N → ¬ mdv (f i) r') ∧ mdv r' r
  | 0, k, S, e, r, hS, hk, hU, _, hdis, ha, mr, hb, hnd => by
    have : k = N := by omega
    subst this
    exact ⟨e, r, S, rfl, hS, hU, ha, mr, hb, hnd, mdv_r r⟩
  | m + 1, k, S, e, r, hS, hk, hU, hf, hdis, ha, mr, hb, hnd => by
    have fk := hf k (Nat.le_refl _) (by omega)
    have lfk : ln (f k) ≤ ln r := ma_dvle h fk.2.2.2 mr.1
    obtain ⟨c, r', e1, e2, e3⟩ := b_tko h o hI (q := f k) fk.2.1.1 (by omega) 24 0 r mr.1 (by omega) (by omega)
    have hc : 1 ≤ c := by
      apply Classical.byContradiction
      intro hc
      rw [show c = 0 by omega, Lean.Grind.Semiring.pow_zero, show (1 : K) * r' = r' by grind] at e2
      rw [← e2] at e3
      exact e3 fk.2.2.2
    have mpow : ∀ j : Nat, mnc ln co (f k ^ j) := fun j => by
      induction j with
      | zero => rw [Lean.Grind.Semiring.pow_zero]; exact mnc_1 h o
      | succ j ih => rw [Lean.Grind.Semiring.pow_succ]; exact mnc_mul h o ih fk.2.2.1
    have mr' : mnc ln co r' := mnc_q h o (mpow c) (e2 ▸ mr)
    have lr' : ln r' + 1 ≤ ln r := by
      have m1 := ma_lnmul h (f k ^ c) r' (mpow c).1 mr'.1
      rw [← e2, (ma_lnpow h fk.2.2.1.1 c).1] at m1
      have : 1 ≤ (ln (f k) - 1) * c := Nat.mul_le_mul (show 1 ≤ ln (f k) - 1 by have := fk.2.1.1; omega) hc
      omega
    have ddr : mdv r' r := ⟨f k ^ c, by rw [e2]; grind⟩
    unfold tofK
    rw [fk.1, e1, Nat.zero_add]
    obtain ⟨e', r2, S', g1, g2, g3, g4, g5, g6, g7, g8⟩ := b_tofK h o hI (a := a) (N := N) (f := f) m (k + 1) (S.1, S.2.1, va_up S.2.2 k (c : Int)) (va_up e k c) r' hS (by omega) ⟨fun i hi => by
        show S.2.1 i = co (f i) ∧ va_up S.2.2 k (c : Int) i = _ ∧ _
        by_cases hik : i = k
        · subst hik
          rw [va_up_self, va_up_self]
          exact ⟨fk.1, rfl, hc, fk.2.1, fk.2.2.1, by omega⟩
        · rw [va_up_ne _ _ hik, va_up_ne _ _ hik]
          exact hU.1 i (by omega), fun i j hi hj => hdis i j hi (by omega)⟩ (fun i a1 a2 => by
        have fi := hf i (by omega) a2
        refine ⟨fi.1, fi.2.1, fi.2.2.1, ?_⟩
        rw [e2] at fi
        rcases fi.2.1.prime h fi.2.2.2 with hd | hd
        · have := fi.2.1.pow h c hd
          have := mnc_irr h o fi.2.2.1 fk.2.2.1 fi.2.1 fk.2.1 this
          exact absurd this.symm (hdis k i (by omega) a2)
        · exact hd) hdis (by
        show a = prE f (va_up e k c) k * f k ^ (va_up e k c k) * r'
        rw [va_up_self, prE_congr (g := f) (d := e) k (fun i hi => ⟨rfl, va_up_ne e c (by omega)⟩), ha, e2]
        grind) mr' (by omega) (fun i hi hd => by
        by_cases hik : i = k
        · rw [hik] at hd; exact e3 hd
        · exact hnd i (by omega) (mdv_t hd ddr))
    exact ⟨e', r2, S', g1, g2, g3, g4, g5, g6, g7, mdv_t g8 ddr⟩
/-- the loop over the degrees -/
theorem b_cutL {p : Nat} {K : Type} [Lean.Grind.CommRing K] {x : K} {ln : K → Nat} {co : K → Nat → Int} (h : KX p K x ln) (o : CO p K x ln co) {inv : Nat → Int} (hI : invP (p : Int) inv) {th : K → K} (hth : TH K x th) {a : K} : ∀ (m d : Nat) (S : KS) (f : Nat → K) (e : Nat → Nat) (r img : K), d + m = 25 → 1 ≤ d → UZ ln co S.1 S f e → a = prE f e S.1 * r → mnc ln co r → S.1 + ln r ≤ 25 → (∀ i, i < S.1 → ¬ mdv (f i) r) → (∀ q, irr ln q → mdv q r → d + 1 ≤ ln q) → ln img ≤ 24 → mdv r (x ^ (p ^ (d - 1)) - img) →
    ∃ S' f' e' r' d', cutL (p : Int) inv xP oneP m d S (co r) (co img) = (S', co r') ∧ UZ ln co S'.1 S' f' e' ∧ a = prE f' e' S'.1 * r' ∧ mnc ln co r' ∧ S'.1 + ln r' ≤ 25 ∧ (∀ i, i < S'.1 → ¬ mdv (f' i) r') ∧ (∀ q, irr ln q → mdv q r' → d' + 1 ≤ ln q) ∧ (ln r' : Int) - 1 < 2 * d'
  | 0, d, S, f, e, r, img, hm, hd, hU, ha, mr, hb, hnd, hno, li, di => ⟨S, f, e, r, d, rfl, hU, ha, mr, hb, hnd, hno, by omega⟩
  | m + 1, d, S, f, e, r, img, hm, hd, hU, ha, mr, hb, hnd, hno, li, di => by
    have hp := h.1.two
    have lx := ma_lx h
    unfold cutL
    rw [b_dg h o (a := r) (by omega)]
    by_cases hc : 2 * (d : Int) ≤ (ln r : Int) - 1
    · rw [if_pos hc]
      obtain ⟨i2, e1, l1, d1⟩ := b_frm h o hI (a := img) (m := r) li (by omega) mr.1
      have e2 : addS (p : Int) (co i2) ((p : Int) - 1) 0 xP = co (i2 - x) := by
        rw [← b_x h o, show (p : Int) - 1 = ((p - 1 : Nat) : Int) by omega, b_addS h o, ma_neg1 h, Lean.Grind.Semiring.pow_zero]
        congr 1
        grind
      have d2 : mdv r (x ^ (p ^ d) - i2) := by
        rw [show d = (d - 1) + 1 by omega, ma_pows]
        exact mdv_tr (mdv_pow di p) d1
      have l2 : ln (i2 - x) ≤ 26 := by have := ma_lnsub h i2 x; omega
      obtain ⟨g, s1, s2, e3, e4, dg1, dg2, mg⟩ := b_gcd h o hI (a := r) (b := i2 - x) (by omega) l2 (.inl mr.1)
      have lg : ln g ≤ ln r := ma_dvle h dg1 mr.1
      have dgx : mdv g (x ^ (p ^ d) - x) := mdv_e (mdv_a (mdv_t dg1 d2) dg2) (by grind)
      have hin : ∀ q, irr ln q → mdv q r → ln q = d + 1 → mdv q g := by
        intro q q1 q2 q3
        have f1 := ma_fermat h q1
        rw [q3, Nat.add_sub_cancel] at f1
        rw [e4]
        exact mdv_a (mdv_ml s1 q2) (mdv_ml s2 (mdv_e (mdv_s f1 (mdv_t q2 d2)) (by grind)))
      rw [e1, e2, e3, b_dg h o (a := g) (by omega)]
      by_cases hg : 0 < (ln g : Int) - 1
      · rw [if_pos hg]
        have hG : GR ln d S.1 g := by
          refine ⟨mg.1, by omega, fun q q1 q2 => ?_, fun q q1 q2 => ma_sqf h th hth.1 hth.2.1 hth.2.2 q1 hd (mdv_t q2 dgx)⟩
          have a1 := hno q q1 (mdv_t q2 dg1)
          have a2 := ma_degle h q1 hd (mdv_t q2 dgx)
          omega
        obtain ⟨f1, hP, hirr, hdis⟩ := b_splK h o hI (S := S) hd hG mg (by omega)
        generalize splK (p : Int) inv xP oneP (co g) d S = T at hP hirr hdis
        have hT := hP.1
        obtain ⟨e', r', S', g1, g2, g3, g4, g5, g6, g7, g8⟩ := b_tofK h o hI (a := a) (N := T.1) (f := fun i => if i < S.1 then f i else f1 i) (T.1 - S.1) S.1 T e r rfl (by omega) ⟨fun i hi => by
            simp only [if_pos hi]
            rw [(hP.2.2.2 i hi).1, (hP.2.2.2 i hi).2]
            exact hU.1 i hi, fun i j hi hj => by
            simp only [if_pos hj, if_pos (show i < S.1 by omega)]
            exact hU.2 i j hi hj⟩ (fun i a1 a2 => by
            simp only [if_neg (show ¬ i < S.1 by omega)]
            exact ⟨(hP.2.1 i a1 a2).1, hirr i a1 a2, (hP.2.1 i a1 a2).2.1, mdv_t (hP.d a1 a2) dg1⟩) (fun i j hi hj => by
            by_cases h1 : j < S.1
            · simp only [if_pos h1, if_pos (show i < S.1 by omega)]
              exact hU.2 i j hi h1
            · simp only [if_neg h1]
              by_cases h2 : i < S.1
              · simp only [if_pos h2]
                intro ee
                exact hnd i h2 (ee ▸ mdv_t (hP.d (by omega) hj) dg1)
              · simp only [if_neg h2]
                exact hdis i j (by omega) hi hj) (by
            rw [ha, prE_congr (f := f) (g := fun i => if i < S.1 then f i else f1 i) (d := e) S.1 (fun i hi => ⟨by simp only [if_pos hi], rfl⟩)]) mr hb (fun i hi => by
            simp only [if_pos hi]
            exact hnd i hi)
        rw [g1]
        show ∃ S'' f' e'' r'' d', cutL (p : Int) inv xP oneP m (d + 1) S' (co r') (co i2) = (S'', co r'') ∧ _
        rw [← g2] at g3 g4 g6 g7
        refine b_cutL h o hI hth m (d + 1) S' (fun i => if i < S.1 then f i else f1 i) e' r' i2 (by omega) (by omega) g3 g4 g5 g6 g7 (fun q q1 q2 => ?_) (by omega) (by rw [Nat.add_sub_cancel]; exact mdv_t g8 d2)
        have a1 := hno q q1 (mdv_t q2 g8)
        apply Classical.byContradiction
        intro hlt
        have q3 := hin q q1 (mdv_t q2 g8) (by omega)
        have q4 : ∃ i, S.1 ≤ i ∧ i < T.1 ∧ mdv q (f1 i) := by
          have hpr : ∀ k, mdv q (prR f1 S.1 k) → ∃ i, S.1 ≤ i ∧ i < S.1 + k ∧ mdv q (f1 i) := by
            intro k
            induction k with
            | zero => exact fun hq => absurd hq (q1.n1 h)
            | succ k ih =>
              intro hq
              rcases q1.prime h hq with hq | hq
              · obtain ⟨i, i1, i2, i3⟩ := ih hq
                exact ⟨i, i1, by omega, i3⟩
              · exact ⟨S.1 + k, by omega, by omega, hq⟩
          obtain ⟨i, i1, i2, i3⟩ := hpr (T.1 - S.1) (by rw [hP.2.2.1]; exact q3)
          exact ⟨i, i1, by omega, i3⟩
        obtain ⟨i, i1, i3, i4⟩ := q4
        obtain ⟨c, hcq⟩ := i4
        have fi := hirr i i1 i3
        have g7i := g7 i (by omega)
        simp only [if_neg (show ¬ i < S.1 by omega)] at g7i
        rcases fi.2 q c hcq with hl | hl
        · have := q1.1; omega
        · have hc0 : c ≠ 0 := fun e => fi.nz h (by rw [hcq, e]; grind)
          obtain ⟨_, v, _, hv⟩ := ma_unit h hc0 hl
          exact g7i (mdv_t ⟨nc v, by rw [hcq]; grind⟩ q2)
      · rw [if_neg hg]
        refine b_cutL h o hI hth m (d + 1) S f e r i2 (by omega) (by omega) hU ha mr hb hnd (fun q q1 q2 => ?_) (by omega) (by rw [Nat.add_sub_cancel]; exact d2)
        have a1 := hno q q1 q2
        apply Classical.byContradiction
        intro hlt
        exact q1.nu h mg.1 (by omega) (hin q q1 q2 (by omega))
    · rw [if_neg hc]
      exact ⟨S, f, e, r, d, rfl, hU, ha, mr, hb, hnd, hno, by omega⟩
end MM
