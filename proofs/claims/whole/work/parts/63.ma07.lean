/-! common divisors, products and powers modulo one -/
section ME
theorem ma_lnmulle {p : Nat} {K : Type} [Lean.Grind.CommRing K] {x : K} {ln : K → Nat} (h : KX p K x ln) (a b : K) : ln (a * b) ≤ ln a + ln b - 1 := by
  by_cases ha : a = 0
  · rw [ha, show (0 : K) * b = 0 by grind, h.2.2.2.2.1]; omega
  by_cases hb : b = 0
  · rw [hb, show a * (0 : K) = 0 by grind, h.2.2.2.2.1]; omega
  have := ma_lnmul h a b ha hb
  omega
theorem ma_red {p : Nat} {K : Type} [Lean.Grind.CommRing K] {x : K} {ln : K → Nat} (h : KX p K x ln) {m r r' a : K} (h1 : mdv m (a - r)) (h2 : mdv m (a - r')) (l1 : ln r < ln m) (l2 : ln r' < ln m) : r = r' := by
  have e : r' - r = 0 := ma_dv0 h (a := m) (mdv_e (mdv_s h1 h2) (by grind)) (by have := ma_lnsub h r' r; omega)
  grind
theorem mdv_mul {K : Type} [Lean.Grind.CommRing K] {m a b c d : K} (h1 : mdv m (a - b)) (h2 : mdv m (c - d)) : mdv m (a * c - b * d) := mdv_e (mdv_a (mdv_mr c h1) (mdv_ml b h2)) (by grind)
theorem mdv_pow {K : Type} [Lean.Grind.CommRing K] {m a b : K} (h1 : mdv m (a - b)) (n : Nat) : mdv m (a ^ n - b ^ n) := by
  induction n with
  | zero => rw [Lean.Grind.Semiring.pow_zero, Lean.Grind.Semiring.pow_zero]; exact mdv_e (mdv_0 m) (by grind)
  | succ n ih => rw [Lean.Grind.Semiring.pow_succ, Lean.Grind.Semiring.pow_succ]; exact mdv_mul ih h1
theorem mdv_tr {K : Type} [Lean.Grind.CommRing K] {m a b c : K} (h1 : mdv m (a - b)) (h2 : mdv m (b - c)) : mdv m (a - c) := mdv_e (mdv_a h1 h2) (by grind)
theorem mdv_sy {K : Type} [Lean.Grind.CommRing K] {m a b : K} (h1 : mdv m (a - b)) : mdv m (b - a) := mdv_e (mdv_n h1) (by grind)
theorem mdv_rf {K : Type} [Lean.Grind.CommRing K] (m a : K) : mdv m (a - a) := mdv_e (mdv_0 m) (by grind)
theorem b_gcdL {p : Nat} {K : Type} [Lean.Grind.CommRing K] {x : K} {ln : K → Nat} {co : K → Nat → Int} (h : KX p K x ln) (o : CO p K x ln co) {inv : Nat → Int} (hI : invP (p : Int) inv) : ∀ (n : Nat) (a b : K), ln a ≤ 300 → ln b ≤ 300 → ln b ≤ n → ∃ g s t, gcdL (p : Int) inv n (co a) (co b) = co g ∧ g = s * a + t * b ∧ mdv g a ∧ mdv g b
  | 0, a, b, _, _, hb => by
    have : b = 0 := (ma_ln0 h).1 (by omega)
    subst this
    exact ⟨a, 1, 0, rfl, by grind, mdv_r a, mdv_0 a⟩
  | n + 1, a, b, ha, hb3, hb => by
    have e1 := b_dg h o hb3
    by_cases hz : b = 0
    · subst hz
      refine ⟨a, 1, 0, ?_, by grind, mdv_r a, mdv_0 a⟩
      unfold gcdL
      rw [if_pos (by rw [e1, h.2.2.2.2.1]; decide)]
    · have l0 : ln b ≠ 0 := fun e => hz ((ma_ln0 h).1 e)
      obtain ⟨q, r, e2, e3, hr⟩ := b_dvm h o hI ha hb3 hz
      obtain ⟨g, s, t, e4, e5, d1, d2⟩ := b_gcdL h o hI n b r hb3 (by omega) (by omega)
      refine ⟨g, t, s - t * q, ?_, by grind, by rw [e3]; exact mdv_a (mdv_mr q d1) d2, d1⟩
      unfold gcdL
      rw [if_neg (by rw [e1]; omega), e2]
      exact e4
theorem b_gcd {p : Nat} {K : Type} [Lean.Grind.CommRing K] {x : K} {ln : K → Nat} {co : K → Nat → Int} (h : KX p K x ln) (o : CO p K x ln co) {inv : Nat → Int} (hI : invP (p : Int) inv) {a b : K} (ha : ln a ≤ 300) (hb : ln b ≤ 26) (h0 : a ≠ 0 ∨ b ≠ 0) : ∃ g s t, gcdP (p : Int) inv (co a) (co b) = co g ∧ g = s * a + t * b ∧ mdv g a ∧ mdv g b ∧ mnc ln co g := by
  obtain ⟨g, s, t, e1, e2, d1, d2⟩ := b_gcdL h o hI 26 a b ha (by omega) hb
  have hg : g ≠ 0 := by
    rintro rfl
    obtain ⟨u, hu⟩ := d1
    obtain ⟨v, hv⟩ := d2
    rcases h0 with h0 | h0
    · exact h0 (by grind)
    · exact h0 (by grind)
  have hl : ln g ≤ 300 := by
    by_cases ha0 : a = 0
    · rcases h0 with h0 | h0
      · exact absurd ha0 h0
      · have := ma_dvle h d2 h0; omega
    · have := ma_dvle h d1 ha0; omega
  obtain ⟨u, hu, e3, hm⟩ := b_mon h o hI hl hg
  obtain ⟨v, hv⟩ := ma_cinv h (c := u) (fun e => hu (by rw [← ma_cmod h, e]; grind))
  refine ⟨nc u * g, nc u * s, nc u * t, ?_, by grind, ?_, ?_, hm⟩
  · unfold gcdP; rw [e1, e3]
  · obtain ⟨k, hk⟩ := d1
    exact ⟨nc v * k, by grind⟩
  · obtain ⟨k, hk⟩ := d2
    exact ⟨nc v * k, by grind⟩
theorem b_mulm {p : Nat} {K : Type} [Lean.Grind.CommRing K] {x : K} {ln : K → Nat} {co : K → Nat → Int} (h : KX p K x ln) (o : CO p K x ln co) {inv : Nat → Int} (hI : invP (p : Int) inv) {a b m : K} (hl : ln a + ln b ≤ 301) (ha : ln a ≤ 300) (hm : ln m ≤ 300) (h0 : m ≠ 0) : ∃ r, mulm (p : Int) inv (co a) (co b) (co m) = co r ∧ ln r < ln m ∧ mdv m (a * b - r) := by
  obtain ⟨q, r, e2, e3, hr⟩ := b_dvm h o hI (a := a * b) (by have := ma_lnmulle h a b; omega) hm h0
  refine ⟨r, ?_, hr, ⟨q, by grind⟩⟩
  unfold mulm
  rw [b_prd h o a b ha, e2]
theorem b_fro {p : Nat} {K : Type} [Lean.Grind.CommRing K] {x : K} {ln : K → Nat} {co : K → Nat → Int} (h : KX p K x ln) (o : CO p K x ln co) (a : K) : fro p (co a) = co (a ^ p) := by
  have h2 := h.1.two
  refine h.2.2.1 (fun a => fro p (co a) = co (a ^ p)) ?_ (fun c b hc ih => ?_) a
  · have e := ma_cpow h 0
    rw [show (nc 0 : K) = 0 by grind] at e
    rw [e]
    funext n
    unfold fro
    rw [co_0 h o, co_0 h o]
    split <;> rfl
  · rw [ma_frob h, ma_cpow h, Lean.Grind.CommSemiring.mul_pow]
    funext n
    rw [o.2.2.2.1 (nc c), o.2.2.2.2.2.2.1 c, co_xt h o, ← ih]
    unfold fro
    by_cases hn : n < p
    · rw [if_pos hn, Int.add_zero]
      by_cases h0 : n = 0
      · subst h0
        rw [Nat.zero_mod, Nat.zero_div, if_pos rfl, if_pos rfl, o.2.2.2.1, o.2.2.2.2.2.2.1, (o.2.2.2.2.2.1 _).1]
        simp
      · rw [if_neg (by rw [Nat.mod_eq_of_lt hn]; exact h0), if_neg h0]
        simp
    · rw [if_neg hn, if_neg (show n ≠ 0 by omega), Int.zero_add]
      have e1 : n = (n - p) + p := by omega
      have e2 : n % p = (n - p) % p := by rw [e1, Nat.add_mod_right, Nat.add_sub_cancel]
      have e3 : n / p = (n - p) / p + 1 := by rw [e1, Nat.add_div_right _ (by omega), Nat.add_sub_cancel]
      rw [e2, e3]
      split
      · rw [o.2.2.2.1, o.2.2.2.2.2.2.1, (o.2.2.2.2.2.1 _).2, if_neg (Nat.succ_ne_zero _), Int.zero_add, co_mod h o]
      · simp
theorem ma_lnpow {p : Nat} {K : Type} [Lean.Grind.CommRing K] {x : K} {ln : K → Nat} (h : KX p K x ln) {a : K} (ha : a ≠ 0) (n : Nat) : ln (a ^ n) = (ln a - 1) * n + 1 ∧ a ^ n ≠ 0 := by
  have l0 : ln a ≠ 0 := fun e => ha ((ma_ln0 h).1 e)
  induction n with
  | zero => rw [Lean.Grind.Semiring.pow_zero, Nat.mul_zero]; exact ma_1 h
  | succ n ih =>
    rw [Lean.Grind.Semiring.pow_succ, Nat.mul_succ]
    have := ma_lnmul h (a ^ n) a ih.2 ha
    refine ⟨by omega, fun e => ?_⟩
    rcases ma_nz h e with e | e
    · exact ih.2 e
    · exact ha e
theorem b_frm {p : Nat} {K : Type} [Lean.Grind.CommRing K] {x : K} {ln : K → Nat} {co : K → Nat → Int} (h : KX p K x ln) (o : CO p K x ln co) {inv : Nat → Int} (hI : invP (p : Int) inv) {a m : K} (ha : ln a ≤ 24) (hm : ln m ≤ 300) (h0 : m ≠ 0) : ∃ r, frm (p : Int) inv (co a) (co m) = co r ∧ ln r < ln m ∧ mdv m (a ^ p - r) := by
  have h2 := h.1.two
  have hl : ln (a ^ p) ≤ 300 := by
    by_cases ha0 : a = 0
    · have e := ma_cpow h 0
      rw [show (nc 0 : K) = 0 by grind] at e
      rw [ha0, e, h.2.2.2.2.1]; omega
    · rw [(ma_lnpow h ha0 p).1]
      have : (ln a - 1) * p ≤ 23 * 13 := Nat.mul_le_mul (by omega) h2.2
      omega
  obtain ⟨q, r, e2, e3, hr⟩ := b_dvm h o hI hl hm h0
  refine ⟨r, ?_, hr, ⟨q, by grind⟩⟩
  unfold frm
  rw [Int.toNat_natCast, b_fro h o, e2]
theorem b_powL {p : Nat} {K : Type} [Lean.Grind.CommRing K] {x : K} {ln : K → Nat} {co : K → Nat → Int} (h : KX p K x ln) (o : CO p K x ln co) {inv : Nat → Int} (hI : invP (p : Int) inv) {m : K} (hm : ln m ≤ 25) (h0 : m ≠ 0) : ∀ (f n : Nat) (u s : K), n < 2 ^ f → ln u < ln m → ln s ≤ 25 → ∃ r, powL (p : Int) inv (co m) f n (co u) (co s) = co r ∧ ln r < ln m ∧ mdv m (u * s ^ n - r)
  | 0, n, u, s, hn, hu, hs => by
    rw [Nat.pow_zero] at hn
    rw [show n = 0 by omega, Lean.Grind.Semiring.pow_zero]
    exact ⟨u, rfl, hu, mdv_e (mdv_0 m) (by grind)⟩
  | f + 1, n, u, s, hn, hu, hs => by
    by_cases hz : n = 0
    · subst hz
      refine ⟨u, by unfold powL; rw [if_pos rfl], hu, ?_⟩
      rw [Lean.Grind.Semiring.pow_zero]
      exact mdv_e (mdv_0 m) (by grind)
    · obtain ⟨s2, e1, l1, d1⟩ := b_mulm h o hI (a := s) (b := s) (m := m) (by omega) (by omega) (by omega) h0
      obtain ⟨u2, e2, l2, d2⟩ := b_mulm h o hI (a := u) (b := s) (m := m) (by omega) (by omega) (by omega) h0
      have hn2 : n / 2 < 2 ^ f := by rw [Nat.pow_succ] at hn; omega
      have ep : s ^ n = (s * s) ^ (n / 2) * s ^ (n % 2) := by
        rw [show (s * s) = s ^ 2 by grind, ← ma_powmul, ← Lean.Grind.Semiring.pow_add, Nat.div_add_mod]
      by_cases hb : n % 2 = 1
      · obtain ⟨r, e3, l3, d3⟩ := b_powL h o hI hm h0 f (n / 2) u2 s2 hn2 l2 (by omega)
        refine ⟨r, ?_, l3, ?_⟩
        · unfold powL; rw [if_neg hz, if_pos hb, e1, e2]; exact e3
        · rw [ep, hb, ma_pow1]
          exact mdv_e (mdv_a (mdv_mul (mdv_pow d1 (n / 2)) d2) d3) (by grind)
      · obtain ⟨r, e3, l3, d3⟩ := b_powL h o hI hm h0 f (n / 2) u s2 hn2 hu (by omega)
        refine ⟨r, ?_, l3, ?_⟩
        · unfold powL; rw [if_neg hz, if_neg hb, e1]; exact e3
        · rw [ep, show n % 2 = 0 by omega, Lean.Grind.Semiring.pow_zero]
          exact mdv_e (mdv_a (mdv_ml u (mdv_pow d1 (n / 2))) d3) (by grind)
end ME
