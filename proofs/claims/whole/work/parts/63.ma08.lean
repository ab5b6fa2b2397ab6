/-! powers, orders, linear factors: the class's answers are the reference's -/
section MF
theorem b_rsL {p : Nat} {K : Type} [Lean.Grind.CommRing K] {x : K} {ln : K → Nat} {co : K → Nat → Int} (h : KX p K x ln) (o : CO p K x ln co) {inv : Nat → Int} (hI : invP (p : Int) inv) {m b : K} (hm : ln m ≤ 25) (h0 : m ≠ 0) (hb : ln b < ln m) (n : Nat) : ∀ (k : Nat) (s : K), ln s < ln m → ∃ r, rsL (p : Int) inv (co b) (co m) n k (co s) = co r ∧ ln r < ln m ∧ mdv m (s ^ (2 ^ k) * b ^ (n % 2 ^ k) - r)
  | 0, s, hs => ⟨s, rfl, hs, by rw [Nat.pow_zero, ma_pow1, Nat.mod_one, Lean.Grind.Semiring.pow_zero]; exact mdv_e (mdv_0 m) (by grind)⟩
  | k + 1, s, hs => by
    obtain ⟨s2, e1, l1, d1⟩ := b_mulm h o hI (a := s) (b := s) (m := m) (by omega) (by omega) (by omega) h0
    obtain ⟨u, e2, l2, d2⟩ := b_mulm h o hI (a := s2) (b := b) (m := m) (by omega) (by omega) (by omega) h0
    have ep : s ^ (2 ^ (k + 1)) = (s * s) ^ (2 ^ k) := by
      rw [Nat.pow_succ, Nat.mul_comm, ma_powmul, show s ^ 2 = s * s by grind]
    have en : n % 2 ^ (k + 1) = n % 2 ^ k + 2 ^ k * (n / 2 ^ k % 2) := Nat.mod_pow_succ
    by_cases hc : n / 2 ^ k % 2 = 1
    · obtain ⟨r, e3, l3, d3⟩ := b_rsL h o hI hm h0 hb n k u l2
      refine ⟨r, by unfold rsL; rw [if_pos hc, e1, e2]; exact e3, l3, ?_⟩
      rw [ep, en, hc, Nat.mul_one, Lean.Grind.Semiring.pow_add]
      have d4 : mdv m (s * s * b - u) := mdv_e (mdv_a (mdv_mr b d1) d2) (by grind)
      have d5 := mdv_pow d4 (2 ^ k)
      rw [Lean.Grind.CommSemiring.mul_pow] at d5
      exact mdv_e (mdv_a (mdv_mr (b ^ (n % 2 ^ k)) d5) d3) (by grind)
    · obtain ⟨r, e3, l3, d3⟩ := b_rsL h o hI hm h0 hb n k s2 l1
      refine ⟨r, by unfold rsL; rw [if_neg hc, e1]; exact e3, l3, ?_⟩
      rw [ep, en, show n / 2 ^ k % 2 = 0 by omega, Nat.mul_zero, Nat.add_zero]
      exact mdv_e (mdv_a (mdv_mr (b ^ (n % 2 ^ k)) (mdv_pow d1 (2 ^ k))) d3) (by grind)
theorem b_pow {p : Nat} {K : Type} [Lean.Grind.CommRing K] {x : K} {ln : K → Nat} {co : K → Nat → Int} (h : KX p K x ln) (o : CO p K x ln co) {inv : Nat → Int} (hI : invP (p : Int) inv) {a m : K} (ha : ln a ≤ 25) (hm : ln m ≤ 25) (h2 : 2 ≤ ln m) {n : Nat} (hn : n < 2 ^ 31) : ∃ r, powP (p : Int) inv (co a) n (co m) = co r ∧ ln r < ln m ∧ mdv m (a ^ n - r) := by
  have h0 : m ≠ 0 := by rintro rfl; rw [h.2.2.2.2.1] at h2; omega
  obtain ⟨r, e1, l1, d1⟩ := b_powL h o hI hm h0 31 n 1 a hn (by rw [(ma_1 h).1]; omega) ha
  refine ⟨r, ?_, l1, mdv_e d1 (by grind)⟩
  unfold powP
  rw [← b_one h o]
  exact e1
theorem b_rsd {p : Nat} {K : Type} [Lean.Grind.CommRing K] {x : K} {ln : K → Nat} {co : K → Nat → Int} (h : KX p K x ln) (o : CO p K x ln co) {inv : Nat → Int} (hI : invP (p : Int) inv) {a m : K} (ha : ln a ≤ 25) (hm : ln m ≤ 25) (h2 : 2 ≤ ln m) {n : Nat} (hn : n < 2 ^ 31) : ∃ r, rsd (p : Int) inv (co a) n (co m) = co r ∧ ln r < ln m ∧ mdv m (a ^ n - r) := by
  have h0 : m ≠ 0 := by rintro rfl; rw [h.2.2.2.2.1] at h2; omega
  obtain ⟨q, b, e1, e2, l1⟩ := b_dvm h o hI (a := a) (b := m) (by omega) (by omega) h0
  obtain ⟨r, e3, l3, d3⟩ := b_rsL h o hI hm h0 l1 n 31 1 (by rw [(ma_1 h).1]; omega)
  refine ⟨r, ?_, l3, ?_⟩
  · unfold rsd
    rw [e1, ← b_one h o]
    exact e3
  · rw [Nat.mod_eq_of_lt hn] at d3
    have e5 : (1 : K) ^ (2 ^ 31) = 1 := by
      have : ∀ k : Nat, (1 : K) ^ k = 1 := fun k => by
        induction k with
        | zero => exact Lean.Grind.Semiring.pow_zero _
        | succ k ih => rw [Lean.Grind.Semiring.pow_succ, ih]; grind
      exact this _
    rw [e5] at d3
    have d4 : mdv m (a - b) := ⟨q, by grind⟩
    exact mdv_e (mdv_a (mdv_pow d4 n) d3) (by grind)
/-- what is known of a field of the document -/
theorem p6_lim {pr : Int} (hl : 0 ≤ limF pr) : ∃ p : Nat, pr = p ∧ p6 p := by
  unfold limF at hl
  unfold p6
  by_cases h2 : pr = 2
  · exact ⟨2, h2, by omega⟩
  by_cases h3 : pr = 3
  · exact ⟨3, h3, by omega⟩
  by_cases h5 : pr = 5
  · exact ⟨5, h5, by omega⟩
  by_cases h7 : pr = 7
  · exact ⟨7, h7, by omega⟩
  by_cases h11 : pr = 11
  · exact ⟨11, h11, by omega⟩
  by_cases h13 : pr = 13
  · exact ⟨13, h13, by omega⟩
  rw [if_neg h2, if_neg h3, if_neg h5, if_neg h7, if_neg h11, if_neg h13] at hl
  omega
theorem pow_eq {pr : Int} {inv : Nat → Int} (hl : 0 ≤ limF pr) (hI : invP pr inv) {A M : Nat → Int} (hA : okp pr 25 A) (hM : okp pr 25 M) (hd : 1 ≤ dg 300 M) {n : Nat} (hn : n < 2 ^ 31) : powP pr inv A n M = rsd pr inv A n M := by
  obtain ⟨p, rfl, h6⟩ := p6_lim hl
  obtain ⟨K, _, x, ln, co, th, h, o, t⟩ := KX_ex h6
  obtain ⟨a, rfl, la⟩ := b_of h o hA
  obtain ⟨m, rfl, lm⟩ := b_of h o hM
  rw [b_dg h o (by omega)] at hd
  obtain ⟨r, e1, l1, d1⟩ := b_pow h o hI la lm (by omega) hn
  obtain ⟨s, e2, l2, d2⟩ := b_rsd h o hI la lm (by omega) hn
  rw [e1, e2, ma_red h d1 d2 l1 l2]
/-! orders -/
def fst1 (E : Nat → Prop) (v : Int) : Prop := (v = 0 ∧ ∀ n, 1 ≤ n → n ≤ 100000 → ¬ E n) ∨ ∃ n : Nat, v = n ∧ 1 ≤ n ∧ n ≤ 100000 ∧ E n ∧ ∀ k, 1 ≤ k → k < n → ¬ E k
theorem fst1_uq {E : Nat → Prop} {v w : Int} (hv : fst1 E v) (hw : fst1 E w) : v = w := by
  rcases hv with ⟨e1, h1⟩ | ⟨n, e1, a1, a2, a3, a4⟩
  · rcases hw with ⟨e2, h2⟩ | ⟨m, e2, b1, b2, b3, b4⟩
    · rw [e1, e2]
    · exact absurd b3 (h1 m b1 b2)
  · rcases hw with ⟨e2, h2⟩ | ⟨m, e2, b1, b2, b3, b4⟩
    · exact absurd a3 (h2 n a1 a2)
    · rw [e1, e2]
      have h1 : ¬ m < n := fun hl => a4 m b1 hl b3
      have h2 : ¬ n < m := fun hl => b4 n a1 hl a3
      omega
theorem b_isone {p : Nat} {K : Type} [Lean.Grind.CommRing K] {x : K} {ln : K → Nat} {co : K → Nat → Int} (h : KX p K x ln) (o : CO p K x ln co) {r : K} (hr : ln r ≤ 300) : (dg 300 (co r) = 0 ∧ co r 0 = 1) ↔ r = 1 := by
  constructor
  · rintro ⟨e1, e2⟩
    rw [b_dg h o hr] at e1
    refine co_ext h o (funext (fun n => ?_))
    rw [b_one h o]
    unfold oneP
    by_cases hn : n = 0
    · rw [if_pos hn, hn, e2]
    · rw [if_neg hn]; exact co_z h o (by omega)
  · rintro rfl
    have h1 := (ma_1 h).1
    rw [b_dg h o (by omega), h1, b_one h o]
    exact ⟨by decide, rfl⟩
theorem b_stp {p : Nat} {K : Type} [Lean.Grind.CommRing K] {x : K} {ln : K → Nat} {co : K → Nat → Int} (h : KX p K x ln) (o : CO p K x ln co) {inv : Nat → Int} (hI : invP (p : Int) inv) {m v : K} (hm : ln m ≤ 25) (h2 : 2 ≤ ln m) (hv : ln v < ln m) : ∃ r, stp (p : Int) (inv (co m (ln m - 1)).toNat) (co m) (ln m - 1) (co v) = co r ∧ ln r < ln m ∧ mdv m (x * v - r) := by
  have hp := h.1.two
  have h0 : m ≠ 0 := by rintro rfl; rw [h.2.2.2.2.1] at h2; omega
  have hl := co_top h o h0
  have hr := co_rg h o m (ln m - 1)
  have hiv := (hI.inv (v := co m (ln m - 1)) ⟨by omega, hr.2⟩).2
  generalize hu : inv (co m (ln m - 1)).toNat = u at hiv ⊢
  have hc : 0 ≤ co v (ln m - 1 - 1) * u % (p : Int) ∧ co v (ln m - 1 - 1) * u % (p : Int) < p := ⟨Int.emod_nonneg _ (by omega), Int.emod_lt_of_pos _ (by omega)⟩
  generalize hcc : co v (ln m - 1 - 1) * u % (p : Int) = c at hc
  have ec : c = ((c.toNat : Nat) : Int) := (Int.toNat_of_nonneg hc.1).symm
  have e1 : stp (p : Int) u (co m) (ln m - 1) (co v) = co (x * v + nc (p - c.toNat) * m) := by
    funext k
    rw [o.2.2.2.1, o.2.2.2.2.1]
    unfold stp
    rw [hcc]
    have ex : co (x * v) k = if k = 0 then 0 else co v (k - 1) := by
      cases k with
      | zero => exact (o.2.2.2.2.2.1 v).1
      | succ k => rw [(o.2.2.2.2.2.1 v).2, if_neg (by omega)]; rfl
    by_cases hk : k ≤ ln m - 1
    · rw [if_pos hk, ← ex, Int.add_emod_emod, show ((p - c.toNat : Nat) : Int) = (p : Int) - c by omega, sub_emod_fix]
    · rw [if_neg hk, ex, if_neg (by omega), co_z h o (a := v) (by omega), co_z h o (a := v) (by omega), co_z h o (a := m) (by omega)]
      simp
  have en : (nc (p - c.toNat) : K) = - nc c.toNat := by
    have e5 : (nc (p - c.toNat) : K) + nc c.toNat = 0 := by rw [← nc_add, Nat.sub_add_cancel (by omega)]; exact h.2.1
    grind
  refine ⟨_, e1, ?_, ⟨nc c.toNat, by rw [en]; grind⟩⟩
  have : ln (x * v + nc (p - c.toNat) * m) ≤ ln m - 1 := co_ln h o (fun k hk => by
    rw [← e1]
    unfold stp
    by_cases hk2 : k ≤ ln m - 1
    · have ek : k = ln m - 1 := by omega
      subst ek
      rw [if_pos hk2, if_neg (by omega)]
      have e6 : (co v (ln m - 1 - 1) - co v (ln m - 1 - 1) * u % (p : Int) * co m (ln m - 1)) % (p : Int) = (co v (ln m - 1 - 1) - co v (ln m - 1 - 1) * (co m (ln m - 1) * u % (p : Int))) % (p : Int) := by
        rw [Int.sub_emod, Int.sub_emod (co v (ln m - 1 - 1)) (co v (ln m - 1 - 1) * _)]
        congr 2
        rw [Int.mul_emod, Int.emod_emod_of_dvd _ (Int.dvd_refl _), ← Int.mul_emod, Int.mul_emod (co v (ln m - 1 - 1)) (_ % _), Int.emod_emod_of_dvd _ (Int.dvd_refl _), ← Int.mul_emod]
        congr 1
        grind
      rw [e6, hiv]
      simp
    · rw [if_neg hk2]; exact co_z h o (by omega))
  omega
theorem b_orL {p : Nat} {K : Type} [Lean.Grind.CommRing K] {x : K} {ln : K → Nat} {co : K → Nat → Int} (h : KX p K x ln) (o : CO p K x ln co) {inv : Nat → Int} (hI : invP (p : Int) inv) {m : K} (hm : ln m ≤ 25) (h2 : 2 ≤ ln m) : ∀ (k n : Nat) (v : K), 1 ≤ n → n + k = 100001 → ln v < ln m → mdv m (x ^ (n - 1) - v) → (∀ j, 1 ≤ j → j < n → ¬ mdv m (x ^ j - 1)) → fst1 (fun j => mdv m (x ^ j - 1)) (orL (p : Int) (inv (co m (ln m - 1)).toNat) (co m) (ln m - 1) k n (co v))
  | 0, n, v, hn, hk, hv, hd, hno => .inl ⟨rfl, fun j h1 h2 => hno j h1 (by omega)⟩
  | k + 1, n, v, hn, hk, hv, hd, hno => by
    obtain ⟨r, e1, l1, d1⟩ := b_stp h o hI hm h2 hv
    have d2 : mdv m (x ^ n - r) := by
      rw [show n = (n - 1) + 1 by omega, Lean.Grind.Semiring.pow_succ]
      exact mdv_e (mdv_a (mdv_ml x hd) d1) (by grind)
    unfold orL
    rw [e1]
    have h1 := (ma_1 h).1
    by_cases hc : r = 1
    · rw [if_pos ((b_isone h o (by omega)).2 hc)]
      subst hc
      exact .inr ⟨n, rfl, hn, by omega, d2, hno⟩
    · rw [if_neg (fun e => hc ((b_isone h o (by omega)).1 e))]
      refine b_orL h o hI hm h2 k (n + 1) r (by omega) (by omega) l1 (by rw [Nat.add_sub_cancel]; exact d2) (fun j j1 j2 hj => ?_)
      by_cases hjn : j = n
      · subst hjn
        exact hc (ma_red h d2 hj l1 (by omega))
      · exact hno j j1 (by omega) hj
theorem b_ordR {p : Nat} {K : Type} [Lean.Grind.CommRing K] {x : K} {ln : K → Nat} {co : K → Nat → Int} (h : KX p K x ln) (o : CO p K x ln co) {inv : Nat → Int} (hI : invP (p : Int) inv) {m : K} (hm : ln m ≤ 25) (h2 : 2 ≤ ln m) : fst1 (fun j => mdv m (x ^ j - 1)) (ordR (p : Int) inv (co m)) := by
  unfold ordR
  rw [b_dg h o (by omega), show ((ln m : Int) - 1).toNat = ln m - 1 by omega, ← b_one h o]
  refine b_orL h o hI hm h2 _ 1 1 (by omega) rfl (by rw [(ma_1 h).1]; omega) ?_ (fun j h1 h2 => by omega)
  rw [Lean.Grind.Semiring.pow_zero]
  exact mdv_rf m 1
theorem ma_x0 {p : Nat} {K : Type} [Lean.Grind.CommRing K] {x : K} {ln : K → Nat} {co : K → Nat → Int} (h : KX p K x ln) (o : CO p K x ln co) {m : K} (h0 : co m 0 = 0) {n : Nat} (hn : 1 ≤ n) : ¬ mdv m (x ^ n - 1) := by
  rintro ⟨c, hc⟩
  obtain ⟨d, b, hd, rfl⟩ := ma_cases h m
  have e0 : co (nc d + x * b) 0 = d := by
    rw [o.2.2.2.1, o.2.2.2.2.2.2.1, (o.2.2.2.2.2.1 _).1]
    simp
    rw [Int.emod_eq_of_lt (by omega) (by omega)]
  have hd0 : d = 0 := by omega
  subst hd0
  rw [show n = (n - 1) + 1 by omega, Lean.Grind.Semiring.pow_succ] at hc
  have e : (1 : K) = x * (x ^ (n - 1) - b * c) := by grind
  have e1 := congrArg (fun z => co z 0) e
  simp only [b_one h o, (o.2.2.2.2.2.1 _).1] at e1
  exact absurd e1 (by decide)
theorem ma_xc {p : Nat} {K : Type} [Lean.Grind.CommRing K] {x : K} {ln : K → Nat} {co : K → Nat → Int} (h : KX p K x ln) (o : CO p K x ln co) {m b : K} (h0 : co m 0 ≠ 0) (hd : mdv m (x * b)) : mdv m b := by
  have hp := h.1.two
  obtain ⟨q, hq⟩ := hd
  obtain ⟨c, m', hc, rfl⟩ := ma_cases h m
  obtain ⟨e, q', he, rfl⟩ := ma_cases h q
  have e0 : co (nc c + x * m') 0 = c := by
    rw [o.2.2.2.1, o.2.2.2.2.2.2.1, (o.2.2.2.2.2.1 _).1]
    simp
    rw [Int.emod_eq_of_lt (by omega) (by omega)]
  have hq2 : nc 0 + x * b = nc (c * e) + x * (nc c * q' + m' * (nc e + x * q')) := by rw [nc_mul]; grind
  have h1 := (ma_inj h hq2).1
  rw [Nat.zero_mod] at h1
  have hz : (nc c : K) * nc e = 0 := by rw [← nc_mul, ← ma_cmod h, ← h1]; grind
  rcases ma_nz h hz with hz | hz
  · have := ma_c0 h hz
    rw [Nat.mod_eq_of_lt hc] at this
    omega
  · exact ⟨q', ma_cancel h (ma_lx h).2 (by rw [hq, hz]; grind)⟩
theorem ma_xcn {p : Nat} {K : Type} [Lean.Grind.CommRing K] {x : K} {ln : K → Nat} {co : K → Nat → Int} (h : KX p K x ln) (o : CO p K x ln co) {m : K} (h0 : co m 0 ≠ 0) {a b : Nat} (hab : a ≤ b) (hd : mdv m (x ^ b - x ^ a)) : mdv m (x ^ (b - a) - 1) := by
  induction a generalizing b with
  | zero => rw [Lean.Grind.Semiring.pow_zero] at hd; exact hd
  | succ a ih =>
    have e : mdv m (x ^ (b - 1) - x ^ a) := ma_xc h o h0 (mdv_e hd (by
      rw [show b = (b - 1) + 1 by omega, Lean.Grind.Semiring.pow_succ, Lean.Grind.Semiring.pow_succ, Nat.add_sub_cancel]; grind))
    have := ih (b := b - 1) (by omega) e
    rwa [show b - 1 - a = b - (a + 1) by omega] at this
theorem b_pwr {p : Nat} {K : Type} [Lean.Grind.CommRing K] {x : K} {ln : K → Nat} {co : K → Nat → Int} (h : KX p K x ln) (o : CO p K x ln co) {inv : Nat → Int} (hI : invP (p : Int) inv) {m : K} (hm : ln m ≤ 25) (h2 : 2 ≤ ln m) (n : Nat) : ∃ r, pwr (p : Int) inv xP (co m) n = co r ∧ ln r < ln m ∧ mdv m (x ^ n - r) := by
  have h0 : m ≠ 0 := by rintro rfl; rw [h.2.2.2.2.1] at h2; omega
  induction n with
  | zero => exact ⟨1, (b_one h o).symm, by rw [(ma_1 h).1]; omega, by rw [Lean.Grind.Semiring.pow_zero]; exact mdv_rf m 1⟩
  | succ n ih =>
    obtain ⟨r, e1, l1, d1⟩ := ih
    have lx := (ma_lx h).1
    obtain ⟨s, e2, l2, d2⟩ := b_mulm h o hI (a := x) (b := r) (m := m) (by omega) (by omega) (by omega) h0
    refine ⟨s, ?_, l2, ?_⟩
    · show mulm (p : Int) inv xP (pwr (p : Int) inv xP (co m) n) (co m) = _
      rw [e1, ← b_x h o, e2]
    · rw [Lean.Grind.Semiring.pow_succ]
      exact mdv_e (mdv_a (mdv_mr x d1) d2) (by grind)
theorem cod_inj {pr : Int} (hp : 0 < pr) {F G : Nat → Int} (hF : ∀ y, 0 ≤ F y ∧ F y < pr) (hG : ∀ y, 0 ≤ G y ∧ G y < pr) : ∀ (n i : Nat) (a b : Int), cod pr F i n a = cod pr G i n b → a = b ∧ ∀ j, i ≤ j → j < i + n → F j = G j
  | 0, i, a, b, e => ⟨e, fun j h1 h2 => by omega⟩
  | n + 1, i, a, b, e => by
    obtain ⟨e1, e2⟩ := cod_inj hp hF hG n (i + 1) (a * pr + F i) (b * pr + G i) e
    have hf := hF i
    have hg := hG i
    have e3 : F i = G i := by
      have h1 : (a * pr + F i) % pr = F i := by rw [Int.add_comm, Int.add_mul_emod_self_right, Int.emod_eq_of_lt hf.1 hf.2]
      have h2 : (b * pr + G i) % pr = G i := by rw [Int.add_comm, Int.add_mul_emod_self_right, Int.emod_eq_of_lt hg.1 hg.2]
      rw [← h1, ← h2, e1]
    refine ⟨?_, fun j h1 h2 => ?_⟩
    · have e4 : a * pr = b * pr := by omega
      exact Int.eq_of_mul_eq_mul_right (by omega) e4
    · by_cases hj : j = i
      · rw [hj, e3]
      · exact e2 j (by omega) (by omega)
theorem b_cod {p : Nat} {K : Type} [Lean.Grind.CommRing K] {x : K} {ln : K → Nat} {co : K → Nat → Int} (h : KX p K x ln) (o : CO p K x ln co) {r s : K} (lr : ln r ≤ 24) (ls : ln s ≤ 24) : (cod (p : Int) (co r) 0 12 0 = cod (p : Int) (co s) 0 12 0 ∧ cod (p : Int) (co r) 12 12 0 = cod (p : Int) (co s) 12 12 0) ↔ r = s := by
  have hp := h.1.two
  constructor
  · rintro ⟨e1, e2⟩
    have a1 := (cod_inj (by omega) (fun y => co_rg h o r y) (fun y => co_rg h o s y) 12 0 0 0 e1).2
    have a2 := (cod_inj (by omega) (fun y => co_rg h o r y) (fun y => co_rg h o s y) 12 12 0 0 e2).2
    refine o.1 r s (fun n => ?_)
    by_cases h1 : n < 12
    · exact a1 n (by omega) (by omega)
    by_cases h2 : n < 24
    · exact a2 n (by omega) (by omega)
    rw [co_z h o (by omega), co_z h o (by omega)]
  · rintro rfl
    exact ⟨rfl, rfl⟩
theorem fss_sp (lo hi : Nat → Int) (a b : Int) : ∀ (n i : Nat), (fss lo hi a b i n = -1 ∧ ∀ j, i ≤ j → j < i + n → ¬ (lo j = a ∧ hi j = b)) ∨ ∃ j : Nat, fss lo hi a b i n = j ∧ i ≤ j ∧ j < i + n ∧ lo j = a ∧ hi j = b
  | 0, i => .inl ⟨rfl, fun j h1 h2 => by omega⟩
  | n + 1, i => by
    by_cases hc : lo i = a ∧ hi i = b
    · exact .inr ⟨i, if_pos hc, by omega, by omega, hc.1, hc.2⟩
    · have e : fss lo hi a b i (n + 1) = fss lo hi a b (i + 1) n := if_neg hc
      rw [e]
      rcases fss_sp lo hi a b n (i + 1) with ⟨e1, e2⟩ | ⟨j, e1, e2, e3, e4⟩
      · refine .inl ⟨e1, fun j h1 h2 => ?_⟩
        by_cases hj : j = i
        · rw [hj]; exact hc
        · exact e2 j (by omega) (by omega)
      · exact .inr ⟨j, e1, by omega, by omega, e4⟩
theorem shS_sp (P : Nat → Nat → Int) : ∀ (n j : Nat), (shS P j n = 0 ∧ ∀ k, j ≤ k → k < j + n → 0 < k → ¬ (dg 300 (P k) = 0 ∧ P k 0 = 1)) ∨ ∃ k : Nat, shS P j n = k ∧ j ≤ k ∧ k < j + n ∧ 0 < k ∧ (dg 300 (P k) = 0 ∧ P k 0 = 1) ∧ ∀ i, j ≤ i → i < k → 0 < i → ¬ (dg 300 (P i) = 0 ∧ P i 0 = 1)
  | 0, j => .inl ⟨rfl, fun k h1 h2 => by omega⟩
  | n + 1, j => by
    by_cases hc : 0 < j ∧ (dg 300 (P j) = 0 ∧ P j 0 = 1)
    · exact .inr ⟨j, if_pos hc, by omega, by omega, hc.1, hc.2, fun i h1 h2 => by omega⟩
    · have e : shS P j (n + 1) = shS P (j + 1) n := if_neg hc
      rw [e]
      rcases shS_sp P n (j + 1) with ⟨e1, e2⟩ | ⟨k, e1, e2, e3, e4, e5, e6⟩
      · refine .inl ⟨e1, fun k h1 h2 h3 => ?_⟩
        by_cases hj : k = j
        · subst hj; exact fun hk => hc ⟨h3, hk⟩
        · exact e2 k (by omega) (by omega) h3
      · refine .inr ⟨k, e1, by omega, by omega, e4, e5, fun i h1 h2 h3 => ?_⟩
        by_cases hj : i = j
        · subst hj; exact fun hk => hc ⟨h3, hk⟩
        · exact e6 i (by omega) h2 h3
end MF
