/-! lists of irreducible factors: at most one is sorted and has the product -/
section MJ
def vl (F : Nat → Int) : Nat → Int
  | 0 => 0
  | n + 1 => vl F n + F n * 13 ^ n
theorem vl_rg {F : Nat → Int} (hF : ∀ x, 0 ≤ F x ∧ F x < 13) : ∀ n, 0 ≤ vl F n ∧ vl F n < 13 ^ n
  | 0 => ⟨Int.le_refl 0, by show (0 : Int) < 13 ^ 0; decide⟩
  | n + 1 => by
    have i := vl_rg hF n
    have hf := hF n
    have h1 : 0 ≤ F n * 13 ^ n := Int.mul_nonneg hf.1 (by omega)
    have h2 : F n * 13 ^ n ≤ 12 * 13 ^ n := Int.mul_le_mul_of_nonneg_right (by omega) (by omega)
    have h3 : (13 : Int) ^ (n + 1) = 13 ^ n * 13 := Int.pow_succ 13 n
    show 0 ≤ vl F n + F n * 13 ^ n ∧ vl F n + F n * 13 ^ n < 13 ^ (n + 1)
    omega
theorem befL_vl {F B : Nat → Int} (hF : ∀ x, 0 ≤ F x ∧ F x < 13) (hB : ∀ x, 0 ≤ B x ∧ B x < 13) : ∀ n, befL F B n = true ↔ vl F n < vl B n
  | 0 => by simp [befL, vl]
  | n + 1 => by
    have i := befL_vl hF hB n
    have rf := vl_rg hF n
    have rb := vl_rg hB n
    unfold befL
    show _ ↔ vl F n + F n * 13 ^ n < vl B n + B n * 13 ^ n
    by_cases e : F n = B n
    · rw [if_pos e, e, i]; omega
    · rw [if_neg e, decide_eq_true_iff]
      constructor
      · intro hlt
        have h2 : (F n + 1) * 13 ^ n ≤ B n * 13 ^ n := Int.mul_le_mul_of_nonneg_right (by omega) (by omega)
        rw [Int.add_mul, Int.one_mul] at h2
        omega
      · intro hlt
        apply Classical.byContradiction
        intro hn
        have h2 : (B n + 1) * 13 ^ n ≤ F n * 13 ^ n := Int.mul_le_mul_of_nonneg_right (by omega) (by omega)
        rw [Int.add_mul, Int.one_mul] at h2
        omega
theorem bef_vl {F B : Nat → Int} (hF : ok 50 F) (hB : ok 50 B) : bef F B = true ↔ vl F 50 < vl B 50 := by
  rw [← befL_vl hF.1 hB.1 50]
  by_cases e : dg 300 F = dg 300 B
  · rw [bef_50 hF hB e]
  · have lf := hF.dlt 300
    have lb := hB.dlt 300
    have gf := dg_ge 300 F
    have gb := dg_ge 300 B
    unfold bef
    rw [if_neg e, decide_eq_true_iff]
    by_cases hl : dg 300 F < dg 300 B
    · have hz : ∀ x, (dg 300 B).toNat + 1 ≤ x → x < (dg 300 B).toNat + 1 + (49 - (dg 300 B).toNat) → F x = B x := fun x x1 _ => by
        rw [hF.above (N := 300) (by omega) (by omega), hB.above (N := 300) (by omega) (by omega)]
      have e1 := befL_skip (F := F) (B := B) (49 - (dg 300 B).toNat) ((dg 300 B).toNat + 1) hz
      rw [show (dg 300 B).toNat + 1 + (49 - (dg 300 B).toNat) = 50 by omega] at e1
      have e2 : F (dg 300 B).toNat = 0 := hF.above (N := 300) (by omega) (by omega)
      have e3 : B (dg 300 B).toNat ≠ 0 := dg_top (n := 300) (by omega)
      have e4 := hB.1 (dg 300 B).toNat
      rw [e1]
      unfold befL
      rw [if_neg (by omega), decide_eq_true_iff]
      omega
    · have hz : ∀ x, (dg 300 F).toNat + 1 ≤ x → x < (dg 300 F).toNat + 1 + (49 - (dg 300 F).toNat) → F x = B x := fun x x1 _ => by
        rw [hF.above (N := 300) (by omega) (by omega), hB.above (N := 300) (by omega) (by omega)]
      have e1 := befL_skip (F := F) (B := B) (49 - (dg 300 F).toNat) ((dg 300 F).toNat + 1) hz
      rw [show (dg 300 F).toNat + 1 + (49 - (dg 300 F).toNat) = 50 by omega] at e1
      have e2 : B (dg 300 F).toNat = 0 := hB.above (N := 300) (by omega) (by omega)
      have e3 : F (dg 300 F).toNat ≠ 0 := dg_top (n := 300) (by omega)
      have e4 := hF.1 (dg 300 F).toNat
      rw [e1]
      unfold befL
      rw [if_neg (by omega), decide_eq_true_iff]
      omega
theorem vl_inj {F B : Nat → Int} (hF : ok 50 F) (hB : ok 50 B) (e : vl F 50 = vl B 50) : F = B := by
  have key : ∀ n, vl F n = vl B n → ∀ x, x < n → F x = B x := by
    intro n
    induction n with
    | zero => intro _ x hx; omega
    | succ n ih =>
      intro e x hx
      have e1 : vl F n + F n * 13 ^ n = vl B n + B n * 13 ^ n := e
      have rf := vl_rg hF.1 n
      have rb := vl_rg hB.1 n
      have e2 : F n = B n := by
        apply Classical.byContradiction
        intro hne
        rcases Int.lt_or_gt_of_ne hne with hlt | hlt
        · have h2 : (F n + 1) * 13 ^ n ≤ B n * 13 ^ n := Int.mul_le_mul_of_nonneg_right (by omega) (by omega)
          rw [Int.add_mul, Int.one_mul] at h2
          omega
        · have h2 : (B n + 1) * 13 ^ n ≤ F n * 13 ^ n := Int.mul_le_mul_of_nonneg_right (by omega) (by omega)
          rw [Int.add_mul, Int.one_mul] at h2
          omega
      by_cases hx2 : x = n
      · rw [hx2, e2]
      · exact ih (by rw [e2] at e1; omega) x (by omega)
  funext x
  by_cases hx : x < 50
  · exact key 50 e x hx
  · rw [hF.2 x (by omega), hB.2 x (by omega)]
/-- two rising rows with the same members are one -/
theorem rise_uq {u w : Nat → Int} {n m : Nat} (hu : ∀ i j, i < j → j < n → u i < u j) (hw : ∀ i j, i < j → j < m → w i < w j) (h1 : ∀ i, i < n → ∃ j, j < m ∧ u i = w j) (h2 : ∀ j, j < m → ∃ i, i < n ∧ w j = u i) : n = m ∧ ∀ i, i < n → u i = w i := by
  have hum : ∀ i j, i < n → j < n → u i = u j → i = j := fun i j hi hj e => by
    apply Classical.byContradiction
    intro hne
    rcases Nat.lt_or_gt_of_ne hne with hl | hl
    · have := hu i j hl hj; omega
    · have := hu j i hl hi; omega
  have hwm : ∀ i j, i < m → j < m → w i = w j → i = j := fun i j hi hj e => by
    apply Classical.byContradiction
    intro hne
    rcases Nat.lt_or_gt_of_ne hne with hl | hl
    · have := hw i j hl hj; omega
    · have := hw j i hl hi; omega
  have key : ∀ i, i < n → i < m ∧ u i = w i := by
    intro i
    induction i using Nat.strongRecOn with
    | _ i ih =>
      intro hi
      obtain ⟨j, hj, e1⟩ := h1 i hi
      have hji : i ≤ j := by
        apply Classical.byContradiction
        intro hn
        have := ih j (by omega) (by omega)
        have := hu j i (by omega) hi
        omega
      refine ⟨by omega, ?_⟩
      obtain ⟨k, hk, e2⟩ := h2 i (by omega)
      have hki : i ≤ k := by
        apply Classical.byContradiction
        intro hn
        have h3 := ih k (by omega) hk
        have := hw k i (by omega) (by omega)
        omega
      by_cases hij : i = j
      · rw [hij] at e1 ⊢; exact e1
      · have h4 := hw i j (by omega) hj
        by_cases hik : i = k
        · rw [e2, ← hik]
        · have := hu i k (by omega) hk
          omega
  have key2 : ∀ j, j < m → j < n := by
    intro j
    induction j using Nat.strongRecOn with
    | _ j ih =>
      intro hj
      obtain ⟨i, hi, e⟩ := h2 j hj
      have := key i hi
      have := hwm i j this.1 hj (by omega)
      omega
  refine ⟨?_, fun i hi => (key i hi).2⟩
  apply Classical.byContradiction
  intro hne
  rcases Nat.lt_or_gt_of_ne hne with hl | hl
  · have := key2 n hl; omega
  · have := key m hl; omega
theorem top_mul {p : Nat} {K : Type} [Lean.Grind.CommRing K] {x : K} {ln : K → Nat} {co : K → Nat → Int} (h : KX p K x ln) (o : CO p K x ln co) (a b : K) (ha : a ≠ 0) (hb : b ≠ 0) : co (a * b) (ln a + ln b - 2) = co a (ln a - 1) * co b (ln b - 1) % (p : Int) := by
  have lb : ln b ≠ 0 := fun e => hb ((ma_ln0 h).1 e)
  revert ha
  refine h.2.2.1 (fun a => a ≠ 0 → co (a * b) (ln a + ln b - 2) = co a (ln a - 1) * co b (ln b - 1) % (p : Int)) (fun e => absurd rfl e) (fun c a hc ih hn => ?_) a
  by_cases hz : a = 0
  · subst hz
    have e0 : (nc c : K) + x * 0 = nc c := by grind
    rw [e0] at hn ⊢
    have l1 := ma_lnc h c
    have l2 : ln (nc c : K) ≠ 0 := fun e => hn ((ma_ln0 h).1 e)
    rw [o.2.2.2.2.1, show ln (nc c : K) + ln b - 2 = ln b - 1 by omega, show ln (nc c : K) - 1 = 0 by omega, o.2.2.2.2.2.2.1, if_pos rfl, Int.mul_emod ((c : Int) % (p : Int)), Int.emod_emod_of_dvd _ (Int.dvd_refl _), ← Int.mul_emod]
  · have i := ih hz
    have la : ln a ≠ 0 := fun e => hz ((ma_ln0 h).1 e)
    rw [ma_lnx h c hz, show ((nc c : K) + x * a) * b = nc c * b + x * (a * b) by grind]
    rw [show ln a + 1 + ln b - 2 = (ln a + ln b - 2) + 1 by omega, o.2.2.2.1, o.2.2.2.2.1, (o.2.2.2.2.2.1 _).2, co_z h o (a := b) (by omega), i, show ln a + 1 - 1 = (ln a - 1) + 1 by omega, o.2.2.2.1, (o.2.2.2.2.2.1 _).2, o.2.2.2.2.2.2.1, if_neg (by omega), Int.mul_zero, Int.zero_emod, Int.zero_add, Int.zero_add, co_mod h o, Int.emod_emod_of_dvd _ (Int.dvd_refl _)]
theorem mnc_1 {p : Nat} {K : Type} [Lean.Grind.CommRing K] {x : K} {ln : K → Nat} {co : K → Nat → Int} (h : KX p K x ln) (o : CO p K x ln co) : mnc ln co 1 := ⟨(ma_1 h).2, by rw [(ma_1 h).1, b_one h o]; rfl⟩
theorem mnc_mul {p : Nat} {K : Type} [Lean.Grind.CommRing K] {x : K} {ln : K → Nat} {co : K → Nat → Int} (h : KX p K x ln) (o : CO p K x ln co) {a b : K} (ha : mnc ln co a) (hb : mnc ln co b) : mnc ln co (a * b) := by
  have h2 := h.1.two
  have l := ma_lnmul h a b ha.1 hb.1
  refine ⟨fun e => by rcases ma_nz h e with e | e; exact ha.1 e; exact hb.1 e, ?_⟩
  rw [show ln (a * b) - 1 = ln a + ln b - 2 by omega, top_mul h o a b ha.1 hb.1, ha.2, hb.2]
  exact Int.emod_eq_of_lt (by decide) (by omega)
theorem mnc_q {p : Nat} {K : Type} [Lean.Grind.CommRing K] {x : K} {ln : K → Nat} {co : K → Nat → Int} (h : KX p K x ln) (o : CO p K x ln co) {a b : K} (ha : mnc ln co a) (hab : mnc ln co (a * b)) : mnc ln co b := by
  have hb : b ≠ 0 := fun e => hab.1 (by rw [e]; grind)
  have l := ma_lnmul h a b ha.1 hb
  have e := hab.2
  rw [show ln (a * b) - 1 = ln a + ln b - 2 by omega, top_mul h o a b ha.1 hb, ha.2, Int.one_mul, co_mod h o] at e
  exact ⟨hb, e⟩
theorem mnc_eq {p : Nat} {K : Type} [Lean.Grind.CommRing K] {x : K} {ln : K → Nat} {co : K → Nat → Int} (h : KX p K x ln) (o : CO p K x ln co) {f g c : K} (hf : mnc ln co f) (hg : mnc ln co g) (e : g = f * c) (hc : ln c ≤ 1) : c = 1 ∧ g = f := by
  subst e
  have hm := mnc_q h o hf hg
  obtain ⟨d, _, e1, _⟩ := ma_unit h hm.1 hc
  have l0 : ln c ≠ 0 := fun e => hm.1 ((ma_ln0 h).1 e)
  have e2 := hm.2
  rw [show ln c - 1 = 0 by omega, e1, o.2.2.2.2.2.2.1, if_pos rfl, ← Int.natCast_emod] at e2
  have e3 : c = 1 := by
    rw [e1, ← ma_cmod h d, show d % p = 1 by omega]
    grind
  exact ⟨e3, by rw [e3]; grind⟩
theorem mnc_irr {p : Nat} {K : Type} [Lean.Grind.CommRing K] {x : K} {ln : K → Nat} {co : K → Nat → Int} (h : KX p K x ln) (o : CO p K x ln co) {f g : K} (hf : mnc ln co f) (hg : mnc ln co g) (i : irr ln f) (j : irr ln g) (hd : mdv f g) : f = g := by
  obtain ⟨c, hc⟩ := hd
  rcases j.2 f c hc with hl | hl
  · have := i.1; omega
  · exact (mnc_eq h o hf hg hc hl).2.symm
theorem irr_u {p : Nat} {K : Type} [Lean.Grind.CommRing K] {x : K} {ln : K → Nat} (h : KX p K x ln) {f : K} (hf : irr ln f) {u : Nat} (hu : (nc u : K) ≠ 0) : irr ln (nc u * f) := by
  obtain ⟨v, hv⟩ := ma_cinv h (c := u) (fun e => hu (by rw [← ma_cmod h, e]; grind))
  have hv0 : (nc v : K) ≠ 0 := fun e => (ma_1 h).2 (by rw [← hv, e]; grind)
  refine ⟨by rw [ma_lncm h hu]; exact hf.1, fun a b e => ?_⟩
  have e2 : f = (nc v * a) * b := by grind
  have := hf.2 _ _ e2
  rwa [ma_lncm h hv0] at this
theorem ma_monic {p : Nat} {K : Type} [Lean.Grind.CommRing K] {x : K} {ln : K → Nat} {co : K → Nat → Int} (h : KX p K x ln) (o : CO p K x ln co) {a : K} (ha : a ≠ 0) : ∃ u : Nat, (nc u : K) ≠ 0 ∧ mnc ln co (nc u * a) := by
  have h2 := h.1.two
  have hl := co_top h o ha
  have hr := co_rg h o a (ln a - 1)
  obtain ⟨u, hu, e⟩ := h.1.inv (co a (ln a - 1)).toNat (by omega) (by omega)
  have hu0 : (nc u : K) ≠ 0 := fun e2 => by
    have := ma_c0 h e2
    rw [Nat.mul_mod, this, Nat.mul_zero, Nat.zero_mod] at e
    omega
  refine ⟨u, hu0, fun e2 => ?_, ?_⟩
  · rcases ma_nz h e2 with e2 | e2
    · exact hu0 e2
    · exact ha e2
  · rw [ma_lncm h hu0, o.2.2.2.2.1, show co a (ln a - 1) = (((co a (ln a - 1)).toNat : Nat) : Int) from (Int.toNat_of_nonneg hr.1).symm, ← Int.natCast_mul, ← Int.natCast_emod, Nat.mul_comm, e]
    rfl
/-- a factor that is irreducible -/
theorem ma_irr {p : Nat} {K : Type} [Lean.Grind.CommRing K] {x : K} {ln : K → Nat} {co : K → Nat → Int} (h : KX p K x ln) (o : CO p K x ln co) : ∀ (n : Nat) (a : K), ln a ≤ n → 2 ≤ ln a → ∃ q, irr ln q ∧ mnc ln co q ∧ mdv q a
  | 0, a, hn, h2 => by omega
  | n + 1, a, hn, h2 => by
    have ha : a ≠ 0 := by rintro rfl; rw [h.2.2.2.2.1] at h2; omega
    by_cases hi : irr ln a
    · obtain ⟨u, hu, hm⟩ := ma_monic h o ha
      obtain ⟨v, hv⟩ := ma_cinv h (c := u) (fun e => hu (by rw [← ma_cmod h, e]; grind))
      exact ⟨nc u * a, irr_u h hi hu, hm, ⟨nc v, by grind⟩⟩
    · have : ∃ b c, a = b * c ∧ 2 ≤ ln b ∧ 2 ≤ ln c := by
        apply Classical.byContradiction
        intro hno
        refine hi ⟨h2, fun b c e => ?_⟩
        apply Classical.byContradiction
        intro hbc
        exact hno ⟨b, c, e, by omega, by omega⟩
      obtain ⟨b, c, e, lb, lc⟩ := this
      have hb : b ≠ 0 := fun e2 => ha (by rw [e, e2]; grind)
      have hc : c ≠ 0 := fun e2 => ha (by rw [e, e2]; grind)
      have l := ma_lnmul h b c hb hc
      rw [← e] at l
      obtain ⟨q, q1, q2, q3⟩ := ma_irr h o n b (by omega) lb
      exact ⟨q, q1, q2, mdv_t q3 ⟨c, e⟩⟩
def prE {K : Type} [Lean.Grind.CommRing K] (f : Nat → K) (e : Nat → Nat) : Nat → K
  | 0 => 1
  | n + 1 => prE f e n * f n ^ e n
theorem prE_d {p : Nat} {K : Type} [Lean.Grind.CommRing K] {x : K} {ln : K → Nat} (h : KX p K x ln) {q : K} (hq : irr ln q) {f : Nat → K} {e : Nat → Nat} : ∀ n, mdv q (prE f e n) → ∃ i, i < n ∧ e i ≠ 0 ∧ mdv q (f i)
  | 0, hd => absurd hd (hq.n1 h)
  | n + 1, hd => by
    rcases hq.prime h hd with hd | hd
    · obtain ⟨i, h1, h2⟩ := prE_d h hq n hd
      exact ⟨i, by omega, h2⟩
    · refine ⟨n, by omega, fun e0 => ?_, hq.pow h _ hd⟩
      rw [e0, Lean.Grind.Semiring.pow_zero] at hd
      exact hq.n1 h hd
theorem prE_congr {K : Type} [Lean.Grind.CommRing K] {f g : Nat → K} {e d : Nat → Nat} : ∀ n, (∀ i, i < n → f i = g i ∧ e i = d i) → prE f e n = prE g d n
  | 0, _ => rfl
  | n + 1, hh => by
    show prE f e n * f n ^ e n = prE g d n * g n ^ d n
    rw [prE_congr n (fun i hi => hh i (by omega)), (hh n (by omega)).1, (hh n (by omega)).2]
theorem prE_out {K : Type} [Lean.Grind.CommRing K] {f : Nat → K} {e : Nat → Nat} {i : Nat} : ∀ n, i < n → prE f e n = f i ^ e i * prE f (va_up e i 0) n
  | 0, hi => by omega
  | n + 1, hi => by
    show prE f e n * f n ^ e n = f i ^ e i * (prE f (va_up e i 0) n * f n ^ (va_up e i 0 n))
    by_cases hin : i = n
    · subst hin
      rw [va_up_self, Lean.Grind.Semiring.pow_zero, prE_congr (g := f) (d := va_up e i 0) i (fun j hj => ⟨rfl, (va_up_ne e 0 (show j ≠ i by omega)).symm⟩)]
      grind
    · rw [va_up_ne _ _ (fun e => hin e.symm), prE_out (i := i) n (by omega)]
      grind
/-- the list of factors of a -/
def FZ {K : Type} [Lean.Grind.CommRing K] (ln : K → Nat) (co : K → Nat → Int) (a : K) (S : KS) : Prop :=
  ∃ (f : Nat → K) (e : Nat → Nat), (∀ i, i < S.1 → S.2.1 i = co (f i) ∧ S.2.2 i = (e i : Int) ∧ 1 ≤ e i ∧ irr ln (f i) ∧ mnc ln co (f i) ∧ ln (f i) ≤ 25) ∧ (∀ i j, i < j → j < S.1 → vl (S.2.1 i) 50 < vl (S.2.1 j) 50) ∧ a = prE f e S.1
theorem b_ok50 {p : Nat} {K : Type} [Lean.Grind.CommRing K] {x : K} {ln : K → Nat} {co : K → Nat → Int} (h : KX p K x ln) (o : CO p K x ln co) {a : K} (ha : ln a ≤ 25) : ok 50 (co a) := (b_ok h o (n := 50) (by omega)).ok (by have := h.1.two; omega)
theorem FZ_uq {p : Nat} {K : Type} [Lean.Grind.CommRing K] {x : K} {ln : K → Nat} {co : K → Nat → Int} (h : KX p K x ln) (o : CO p K x ln co) {a : K} {S S' : KS} (hS : FZ ln co a S) (hS' : FZ ln co a S') : S.1 = S'.1 ∧ ∀ i, i < S.1 → S.2.1 i = S'.2.1 i ∧ S.2.2 i = S'.2.2 i := by
  obtain ⟨f, e, f1, f2, f3⟩ := hS
  obtain ⟨g, d, g1, g2, g3⟩ := hS'
  have mem : ∀ {f g : Nat → K} {e d : Nat → Nat} {n m : Nat}, (∀ i, i < n → 1 ≤ e i ∧ irr ln (f i) ∧ mnc ln co (f i)) → (∀ i, i < m → irr ln (g i) ∧ mnc ln co (g i)) → prE f e n = prE g d m → ∀ i, i < n → ∃ j, j < m ∧ f i = g j := by
    intro f g e d n m hf hg he i hi
    have hd : mdv (f i) (prE g d m) := by
      rw [← he, prE_out n hi, show e i = (e i - 1) + 1 by have := (hf i hi).1; omega, Lean.Grind.Semiring.pow_succ]
      exact ⟨f i ^ (e i - 1) * prE f (va_up e i 0) n, by grind⟩
    obtain ⟨j, hj, _, hd2⟩ := prE_d h (hf i hi).2.1 m hd
    exact ⟨j, hj, mnc_irr h o (hf i hi).2.2 (hg j hj).2 (hf i hi).2.1 (hg j hj).1 hd2⟩
  have m1 := mem (f := f) (g := g) (e := e) (d := d) (fun i hi => ⟨(f1 i hi).2.2.1, (f1 i hi).2.2.2.1, (f1 i hi).2.2.2.2.1⟩) (fun i hi => ⟨(g1 i hi).2.2.2.1, (g1 i hi).2.2.2.2.1⟩) (f3.symm.trans g3)
  have m2 := mem (f := g) (g := f) (e := d) (d := e) (fun i hi => ⟨(g1 i hi).2.2.1, (g1 i hi).2.2.2.1, (g1 i hi).2.2.2.2.1⟩) (fun i hi => ⟨(f1 i hi).2.2.2.1, (f1 i hi).2.2.2.2.1⟩) (g3.symm.trans f3)
  obtain ⟨en, eu⟩ := rise_uq f2 g2 (fun i hi => by
    obtain ⟨j, hj, e1⟩ := m1 i hi
    exact ⟨j, hj, by rw [(f1 i hi).1, (g1 j hj).1, e1]⟩) (fun j hj => by
    obtain ⟨i, hi, e1⟩ := m2 j hj
    exact ⟨i, hi, by rw [(g1 j hj).1, (f1 i hi).1, e1]⟩)
  refine ⟨en, fun i hi => ?_⟩
  have hi' : i < S'.1 := by omega
  have e1 : S.2.1 i = S'.2.1 i := by
    refine vl_inj ?_ ?_ (eu i hi)
    · rw [(f1 i hi).1]; exact b_ok50 h o (f1 i hi).2.2.2.2.2
    · rw [(g1 i hi').1]; exact b_ok50 h o (g1 i hi').2.2.2.2.2
  refine ⟨e1, ?_⟩
  have efg : f i = g i := co_ext h o (by rw [← (f1 i hi).1, e1, (g1 i hi').1])
  have nd : ∀ {f : Nat → K} {e : Nat → Nat} {S : KS}, (∀ i, i < S.1 → S.2.1 i = co (f i) ∧ S.2.2 i = (e i : Int) ∧ 1 ≤ e i ∧ irr ln (f i) ∧ mnc ln co (f i) ∧ ln (f i) ≤ 25) → (∀ i j, i < j → j < S.1 → vl (S.2.1 i) 50 < vl (S.2.1 j) 50) → i < S.1 → ¬ mdv (f i) (prE f (va_up e i 0) S.1) := by
    intro f e S f1 f2 hi hd
    obtain ⟨j, hj, hj0, hd2⟩ := prE_d h (f1 i hi).2.2.2.1 S.1 hd
    have hji : j ≠ i := fun e => hj0 (by rw [e, va_up_self])
    have e2 := mnc_irr h o (f1 i hi).2.2.2.2.1 (f1 j hj).2.2.2.2.1 (f1 i hi).2.2.2.1 (f1 j hj).2.2.2.1 hd2
    have e3 : S.2.1 i = S.2.1 j := by rw [(f1 i hi).1, (f1 j hj).1, e2]
    rcases Nat.lt_or_gt_of_ne hji with hl | hl
    · have := f2 j i hl hi; rw [e3] at this; omega
    · have := f2 i j hl hj; rw [e3] at this; omega
  have n1 := nd f1 f2 hi
  have n2 := nd g1 g2 hi'
  have ep : f i ^ e i * prE f (va_up e i 0) S.1 = f i ^ d i * prE g (va_up d i 0) S'.1 := by
    rw [← prE_out S.1 hi, efg, ← prE_out S'.1 hi', ← f3, ← g3]
  have hf0 : f i ≠ 0 := (f1 i hi).2.2.2.1.nz h
  have hpow : ∀ k : Nat, f i ^ k ≠ 0 := fun k => (ma_lnpow h hf0 k).2
  have e5 : e i = d i := by
    apply Classical.byContradiction
    intro hne
    rcases Nat.lt_or_gt_of_ne hne with hl | hl
    · rw [show d i = e i + ((d i - e i - 1) + 1) by omega, Lean.Grind.Semiring.pow_add, Lean.Grind.Semiring.pow_succ] at ep
      have := ma_cancel h (hpow (e i)) (ep.trans (Lean.Grind.Semiring.mul_assoc _ _ _))
      exact n1 ⟨f i ^ (d i - e i - 1) * prE g (va_up d i 0) S'.1, by rw [this]; grind⟩
    · rw [show e i = d i + ((e i - d i - 1) + 1) by omega, Lean.Grind.Semiring.pow_add, Lean.Grind.Semiring.pow_succ] at ep
      have := ma_cancel h (hpow (d i)) ((Lean.Grind.Semiring.mul_assoc _ _ _).symm.trans ep)
      rw [← efg] at n2
      exact n2 ⟨f i ^ (e i - d i - 1) * prE f (va_up e i 0) S.1, by rw [← this]; grind⟩
  rw [(f1 i hi).2.1, (g1 i hi').2.1, e5]
end MJ
