/-! traces, what separates, squares -/
section MC
def trc {K : Type} [Lean.Grind.CommRing K] (p : Nat) : Nat → K → K
  | 0, _ => 0
  | n + 1, u => trc p n u + u ^ (p ^ n)
theorem trc_add {p : Nat} {K : Type} [Lean.Grind.CommRing K] {x : K} {ln : K → Nat} (h : KX p K x ln) (n : Nat) (a b : K) : trc p n (a + b) = trc p n a + trc p n b := by
  induction n with
  | zero => show (0 : K) = 0 + 0; grind
  | succ n ih => show trc p n (a + b) + _ = (trc p n a + _) + (trc p n b + _); rw [ih, ma_frobm h]; grind
theorem trc_c {p : Nat} {K : Type} [Lean.Grind.CommRing K] {x : K} {ln : K → Nat} (h : KX p K x ln) (n c : Nat) (a : K) : trc p n (nc c * a) = nc c * trc p n a := by
  induction n with
  | zero => show (0 : K) = nc c * 0; grind
  | succ n ih => show trc p n (nc c * a) + _ = nc c * (trc p n a + _); rw [ih, Lean.Grind.CommSemiring.mul_pow, ma_cpowm h]; grind
theorem trc_d {p : Nat} {K : Type} [Lean.Grind.CommRing K] {x : K} {ln : K → Nat} (h : KX p K x ln) {f : K} (n : Nat) (a : K) (hd : mdv f a) : mdv f (trc p n a) := by
  have hpp : ∀ i, mdv f (a ^ (p ^ i)) := by
    intro i
    have : 0 < p ^ i := Nat.pow_pos (by have := h.1.two; omega)
    rw [show p ^ i = (p ^ i - 1) + 1 by omega, Lean.Grind.Semiring.pow_succ]
    exact mdv_ml _ hd
  induction n with
  | zero => exact mdv_0 f
  | succ n ih => exact mdv_a ih (hpp n)
theorem trc_p {p : Nat} {K : Type} [Lean.Grind.CommRing K] {x : K} {ln : K → Nat} (h : KX p K x ln) (n : Nat) (a : K) : trc p n a ^ p = trc p n a + a ^ (p ^ n) - a := by
  induction n with
  | zero =>
    have e := ma_cpow h 0
    rw [show (nc 0 : K) = 0 by grind] at e
    show (0 : K) ^ p = 0 + a ^ (p ^ 0) - a
    rw [e, ma_pow00]
    grind
  | succ n ih => show (trc p n a + a ^ (p ^ n)) ^ p = trc p n a + a ^ (p ^ n) + a ^ (p ^ (n + 1)) - a; rw [ma_frob h, ih, ← ma_pows]; grind
theorem trc_isP {p : Nat} {K : Type} [Lean.Grind.CommRing K] {x : K} {ln : K → Nat} (h : KX p K x ln) (n : Nat) : isP (p ^ n) (trc (K := K) p (n + 1)) 1 := by
  have h2 := h.1.two
  induction n with
  | zero =>
    have := isP_pow (K := K) (p ^ 0)
    have e : (fun t : K => t ^ (p ^ 0)) = trc p (0 + 1) := funext (fun t => by show _ = 0 + t ^ (p ^ 0); grind)
    rwa [e] at this
  | succ n ih =>
    have hlt : p ^ n < p ^ (n + 1) := Nat.pow_lt_pow_right (by omega) (by omega)
    have h1 := isP_upn ih (p ^ (n + 1) - p ^ n - 1)
    rw [show p ^ n + 1 + (p ^ (n + 1) - p ^ n - 1) = p ^ (n + 1) by omega] at h1
    have h3 := isP_add h1 (isP_pow (K := K) (p ^ (n + 1)))
    rwa [show (0 : K) + 1 = 1 by grind] at h3
/-- modulo an irreducible one of degree d a trace is a number -/
theorem trc_v {p : Nat} {K : Type} [Lean.Grind.CommRing K] {x : K} {ln : K → Nat} (h : KX p K x ln) {f : K} (hf : irr ln f) (a : K) : ∃ v, v < p ∧ mdv f (trc p (ln f - 1) a - nc v) := by
  have h2 := h.1.two
  apply Classical.byContradiction
  intro hn
  have hP : isP p (fun t : K => t ^ p + (-1) * t) (1 + (-1) * 0) := by
    refine isP_add (isP_pow _) (isP_smul (-1) ?_)
    have h1 : isP 1 (fun t : K => t) 1 := by
      have := isP_pow (K := K) 1
      rwa [show (fun t : K => t ^ 1) = (fun t => t) from funext (fun t => ma_pow1 t)] at this
    have := isP_upn h1 (p - 2)
    rwa [show 1 + 1 + (p - 2) = p by omega] at this
  have key := isP_roots (fun a b => hf.prime h) hP (fun i => if i < p then nc i else trc p (ln f - 1) a) (fun i j hi hj hd => ?_) (fun i hi => ?_)
  · exact hf.n1 h (mdv_e key (by grind))
  · simp only [show i < p by omega, if_true] at hd
    by_cases hj2 : j < p
    · simp only [hj2, if_true] at hd
      have e : (nc i : K) - nc j = nc (i + (p - 1) * j) := by rw [nc_add, nc_mul, ma_neg1 h]; grind
      rw [e] at hd
      have e2 := hf.ncz h hd
      rw [← e] at e2
      have e3 := ma_inj h (c := i) (d := j) (a := 0) (b := 0) (by grind)
      rw [Nat.mod_eq_of_lt (by omega), Nat.mod_eq_of_lt hj2] at e3
      omega
    · simp only [hj2, if_false] at hd
      exact hn ⟨i, by omega, mdv_e (mdv_n hd) (by grind)⟩
  · by_cases hi2 : i < p
    · simp only [hi2, if_true]
      rw [ma_cpow h]
      exact mdv_e (mdv_0 f) (by grind)
    · simp only [hi2, if_false]
      rw [trc_p h]
      exact mdv_e (ma_all h (ma_fermat h hf) a) (by grind)
theorem trc_nz {p : Nat} {K : Type} [Lean.Grind.CommRing K] {x : K} {ln : K → Nat} (h : KX p K x ln) {f : K} (hf : irr ln f) : ∃ u, ¬ mdv f (trc p (ln f - 1) u) := by
  have h2 := h.1.two
  have hl := hf.1
  apply Classical.byContradiction
  intro hn
  have hn2 : ∀ u, mdv f (trc p (ln f - 1) u) := fun u => Classical.byContradiction (fun hc => hn ⟨u, hc⟩)
  have hP := trc_isP h (ln f - 2)
  rw [show ln f - 2 + 1 = ln f - 1 by omega] at hP
  have hlt : p ^ (ln f - 2) < p ^ (ln f - 1) := Nat.pow_lt_pow_right (by omega) (by omega)
  have := isP_roots (fun a b => hf.prime h) hP (fun i => enr p x (ln f - 1) i) (fun i j hi hj => enr_nd h (by omega) (by omega) (by omega) (by omega)) (fun i _ => hn2 _)
  exact hf.n1 h this
/-- two irreducible ones of degree d that all traces of x^i, i below the degree of a common multiple g, see alike, are one -/
theorem ma_sep {p : Nat} {K : Type} [Lean.Grind.CommRing K] {x : K} {ln : K → Nat} (h : KX p K x ln) {f1 f2 g : K} (h1 : irr ln f1) (h2 : irr ln f2) (hl : ln f1 = ln f2) (hg : g ≠ 0) (d1 : mdv f1 g) (d2 : mdv f2 g) (hs : ∀ i, i < ln g - 1 → ∃ v, mdv f1 (trc p (ln f1 - 1) (x ^ i) - nc v) ∧ mdv f2 (trc p (ln f1 - 1) (x ^ i) - nc v)) : mdv f1 f2 := by
  apply Classical.byContradiction
  intro hn
  have hS : ∀ b k, k + ln b ≤ ln g - 1 → ∃ v, mdv f1 (trc p (ln f1 - 1) (x ^ k * b) - nc v) ∧ mdv f2 (trc p (ln f1 - 1) (x ^ k * b) - nc v) := by
    intro b
    refine h.2.2.1 (fun b => ∀ k, k + ln b ≤ ln g - 1 → ∃ v, mdv f1 (trc p (ln f1 - 1) (x ^ k * b) - nc v) ∧ mdv f2 (trc p (ln f1 - 1) (x ^ k * b) - nc v)) (fun k _ => ?_) (fun c b hc ih k hk => ?_) b
    · refine ⟨0, ?_, ?_⟩ <;> exact mdv_e (trc_d h (ln f1 - 1) (x ^ k * 0) (mdv_e (mdv_0 _) (by grind))) (by grind)
    · by_cases hz : c = 0 ∧ b = 0
      · obtain ⟨rfl, rfl⟩ := hz
        refine ⟨0, ?_, ?_⟩ <;> exact mdv_e (trc_d h (ln f1 - 1) (x ^ k * (nc 0 + x * 0)) (mdv_e (mdv_0 _) (by grind))) (by grind)
      · rw [h.2.2.2.2.2 c b hc hz] at hk
        obtain ⟨v, a1, a2⟩ := ih (k + 1) (by omega)
        obtain ⟨w, b1, b2⟩ := hs k (by omega)
        have e : x ^ k * (nc c + x * b) = nc c * x ^ k + x ^ (k + 1) * b := by rw [Lean.Grind.Semiring.pow_succ]; grind
        rw [e, trc_add h, trc_c h]
        refine ⟨c * w + v, ?_, ?_⟩
        · exact mdv_e (mdv_a (mdv_ml (nc c) b1) a1) (by rw [nc_add, nc_mul]; grind)
        · exact mdv_e (mdv_a (mdv_ml (nc c) b2) a2) (by rw [nc_add, nc_mul]; grind)
  have hS2 : ∀ u, ∃ v, mdv f1 (trc p (ln f1 - 1) u - nc v) ∧ mdv f2 (trc p (ln f1 - 1) u - nc v) := by
    intro u
    obtain ⟨q, r, e, hr⟩ := ma_div h u g hg
    obtain ⟨v, a1, a2⟩ := hS r 0 (by omega)
    rw [Lean.Grind.Semiring.pow_zero, show (1 : K) * r = r by grind] at a1 a2
    refine ⟨v, ?_, ?_⟩
    · rw [e, trc_add h]
      exact mdv_e (mdv_a (trc_d h (ln f1 - 1) (g * q) (mdv_mr q d1)) a1) (by grind)
    · rw [e, trc_add h]
      exact mdv_e (mdv_a (trc_d h (ln f1 - 1) (g * q) (mdv_mr q d2)) a2) (by grind)
  obtain ⟨u, hu⟩ := trc_nz h h1
  obtain ⟨s, t, e⟩ := h1.cop h hn
  obtain ⟨v, a1, a2⟩ := hS2 (u * (t * f2))
  have e2 : mdv f2 (nc v) := mdv_e (mdv_s (trc_d h (ln f1 - 1) (u * (t * f2)) ⟨u * t, by grind⟩) a2) (by grind)
  have e3 := h2.ncz h e2
  refine hu (mdv_e (mdv_a (trc_d h (ln f1 - 1) (u * (s * f1)) ⟨u * s, by grind⟩) a1) ?_)
  rw [e3, show trc p (ln f1 - 1) u = trc p (ln f1 - 1) (u * (s * f1) + u * (t * f2)) by congr 1; grind, trc_add h]
  grind
/-- no square of an irreducible one divides x^(p^m) - x -/
theorem ma_sqf {p : Nat} {K : Type} [Lean.Grind.CommRing K] {x : K} {ln : K → Nat} (h : KX p K x ln) (th : K → K) (tm : ∀ a b, th (a * b) = th a * b + a * th b) (ts : ∀ a b, th (a - b) = th a - th b) (tx : th x = x) {f : K} (hf : irr ln f) {m : Nat} (hm : 1 ≤ m) : ¬ mdv (f * f) (x ^ (p ^ m) - x) := by
  rintro ⟨k, hk⟩
  have h2 := h.1.two
  have t1 : th (1 : K) = 0 := by
    have := tm 1 1
    rw [show (1 : K) * 1 = 1 by grind] at this
    grind
  have tp : ∀ n, th (x ^ n) = nc n * x ^ n := by
    intro n
    induction n with
    | zero => rw [Lean.Grind.Semiring.pow_zero, t1]; grind
    | succ n ih => rw [Lean.Grind.Semiring.pow_succ, tm, ih, tx, nc_add]; grind
  have ep : (nc (p ^ m) : K) = 0 := by
    rw [show m = (m - 1) + 1 by omega, Nat.pow_succ, nc_mul, h.2.1]; grind
  have e := congrArg th hk
  rw [ts, tp, ep, tx, tm, tm] at e
  have dx : mdv f x := ⟨-(2 * th f * k + f * th k), by grind⟩
  obtain ⟨g, hg⟩ := dx
  have hp1 : 2 ≤ p ^ m := Nat.le_trans h2.1 (by have := Nat.pow_le_pow_right (n := p) (by omega) hm; rwa [Nat.pow_one] at this)
  have e5 : x ^ (p ^ m) = x ^ (p ^ m - 2) * x * x := by
    rw [← Lean.Grind.Semiring.pow_succ, ← Lean.Grind.Semiring.pow_succ, show p ^ m - 2 + 1 + 1 = p ^ m by omega]
  have e6 : f * k = g * (x ^ (p ^ m - 2) * x - 1) := ma_cancel h (hf.nz h) (by grind)
  have dg : mdv f g := ⟨g * (x ^ (p ^ m - 2) * g) - k, by grind⟩
  obtain ⟨j, hj⟩ := dg
  have lx : ln x = 2 ∧ x ≠ 0 := by
    have a1 := ma_lnx h 0 (ma_1 h).2
    rw [(ma_1 h).1, show (nc 0 : K) + x * 1 = x by grind] at a1
    exact ⟨a1, fun e => by rw [e, h.2.2.2.2.1] at a1; omega⟩
  have := ma_dvle h (a := f * f) (b := x) ⟨j, by grind⟩ lx.2
  have := ma_lnmul h f f (hf.nz h) (hf.nz h)
  have := hf.1
  omega
end MC
