/-! irreducible polynomials, Frobenius, roots -/
def irr {K : Type} [Lean.Grind.CommRing K] (ln : K → Nat) (f : K) : Prop := 2 ≤ ln f ∧ ∀ a b, f = a * b → ln a ≤ 1 ∨ ln b ≤ 1
section MB
theorem ma_unit {p : Nat} {K : Type} [Lean.Grind.CommRing K] {x : K} {ln : K → Nat} (h : KX p K x ln) {u : K} (hu : u ≠ 0) (hl : ln u ≤ 1) : ∃ c d : Nat, u = nc c ∧ u * nc d = 1 := by
  obtain ⟨c, b, hc, rfl⟩ := ma_cases h u
  have hb : b = 0 := by
    apply Classical.byContradiction
    intro hb
    have := ma_lnx h c hb
    have : ln b ≠ 0 := fun e => hb ((ma_ln0 h).1 e)
    omega
  subst hb
  have e0 : (nc c : K) + x * 0 = nc c := by grind
  rw [e0] at hu ⊢
  obtain ⟨d, hd⟩ := ma_cinv h (c := c) (fun e => hu (by rw [← ma_cmod h, e]; grind))
  exact ⟨c, d, rfl, hd⟩
theorem irr.nz {p : Nat} {K : Type} [Lean.Grind.CommRing K] {x : K} {ln : K → Nat} (h : KX p K x ln) {f : K} (hf : irr ln f) : f ≠ 0 := by
  rintro rfl
  have := hf.1
  rw [h.2.2.2.2.1] at this
  omega
theorem irr.nu {p : Nat} {K : Type} [Lean.Grind.CommRing K] {x : K} {ln : K → Nat} (h : KX p K x ln) {f u : K} (hf : irr ln f) (hu : u ≠ 0) (hl : ln u ≤ 1) : ¬ mdv f u := fun hd => by
  have := ma_dvle h hd hu
  have := hf.1
  omega
theorem ma_1 {p : Nat} {K : Type} [Lean.Grind.CommRing K] {x : K} {ln : K → Nat} (h : KX p K x ln) : ln (1 : K) = 1 ∧ (1 : K) ≠ 0 := by
  have h2 := h.1.two
  have e : (1 : K) = nc 1 + x * 0 := by grind
  have l := h.2.2.2.2.2 1 0 (by omega) (fun e => by simp at e)
  rw [← e, h.2.2.2.2.1] at l
  exact ⟨l, fun e => by rw [e, h.2.2.2.2.1] at l; omega⟩
theorem irr.n1 {p : Nat} {K : Type} [Lean.Grind.CommRing K] {x : K} {ln : K → Nat} (h : KX p K x ln) {f : K} (hf : irr ln f) : ¬ mdv f 1 := hf.nu h (ma_1 h).2 (by rw [(ma_1 h).1]; omega)
theorem irr.ncz {p : Nat} {K : Type} [Lean.Grind.CommRing K] {x : K} {ln : K → Nat} (h : KX p K x ln) {f : K} (hf : irr ln f) {c : Nat} (hd : mdv f (nc c)) : (nc c : K) = 0 := by
  apply Classical.byContradiction
  intro hc
  exact hf.nu h hc (ma_lnc h c) hd
theorem irr.cop {p : Nat} {K : Type} [Lean.Grind.CommRing K] {x : K} {ln : K → Nat} (h : KX p K x ln) {f a : K} (hf : irr ln f) (ha : ¬ mdv f a) : ∃ s t, s * f + t * a = 1 := by
  obtain ⟨g, s, t, e, ⟨k, hk⟩, ⟨m, hm⟩⟩ := ma_bez h f a
  have hf0 := hf.nz h
  have hg0 : g ≠ 0 := fun e => hf0 (by rw [hk, e]; grind)
  have hk0 : k ≠ 0 := fun e => hf0 (by rw [hk, e]; grind)
  rcases hf.2 g k hk with hl | hl
  · obtain ⟨c, d, _, hd⟩ := ma_unit h hg0 hl
    exact ⟨s * nc d, t * nc d, by grind⟩
  · obtain ⟨c, d, _, hd⟩ := ma_unit h hk0 hl
    exact absurd ⟨nc d * m, by grind⟩ ha
theorem irr.prime {p : Nat} {K : Type} [Lean.Grind.CommRing K] {x : K} {ln : K → Nat} (h : KX p K x ln) {f a b : K} (hf : irr ln f) (hd : mdv f (a * b)) : mdv f a ∨ mdv f b := by
  by_cases ha : mdv f a
  · exact .inl ha
  · obtain ⟨s, t, e⟩ := hf.cop h ha
    obtain ⟨m, hm⟩ := hd
    exact .inr ⟨s * b + t * m, by grind⟩
theorem irr.pow {p : Nat} {K : Type} [Lean.Grind.CommRing K] {x : K} {ln : K → Nat} (h : KX p K x ln) {f a : K} (hf : irr ln f) (n : Nat) (hd : mdv f (a ^ n)) : mdv f a := by
  induction n with
  | zero => rw [Lean.Grind.Semiring.pow_zero] at hd; exact absurd hd (hf.n1 h)
  | succ n ih =>
    rw [Lean.Grind.Semiring.pow_succ] at hd
    rcases hf.prime h hd with hd | hd
    · exact ih hd
    · exact hd
theorem ma_powmul {K : Type} [Lean.Grind.CommRing K] (a : K) (m n : Nat) : a ^ (m * n) = (a ^ m) ^ n := by
  induction n with
  | zero => rw [Nat.mul_zero, Lean.Grind.Semiring.pow_zero, Lean.Grind.Semiring.pow_zero]
  | succ n ih => rw [Nat.mul_succ, Lean.Grind.Semiring.pow_add, ih, Lean.Grind.Semiring.pow_succ]
theorem ma_pows {K : Type} [Lean.Grind.CommRing K] (a : K) (p m : Nat) : a ^ (p ^ (m + 1)) = (a ^ (p ^ m)) ^ p := by rw [Nat.pow_succ, ma_powmul]
theorem ma_pows2 {K : Type} [Lean.Grind.CommRing K] (a : K) (p m : Nat) : a ^ (p ^ (m + 1)) = (a ^ p) ^ (p ^ m) := by rw [Nat.pow_succ, Nat.mul_comm, ma_powmul]
theorem ma_pow1 {K : Type} [Lean.Grind.CommRing K] (a : K) : a ^ 1 = a := by rw [Lean.Grind.Semiring.pow_succ, Lean.Grind.Semiring.pow_zero]; grind
theorem ma_pow00 {K : Type} [Lean.Grind.CommRing K] (a : K) (p : Nat) : a ^ (p ^ 0) = a := by rw [Nat.pow_zero, ma_pow1]
theorem ma_frob {p : Nat} {K : Type} [Lean.Grind.CommRing K] {x : K} {ln : K → Nat} (h : KX p K x ln) (a b : K) : (a + b) ^ p = a ^ p + b ^ p := by
  have hp := h.2.1
  rcases h.1 with e | e | e | e | e | e <;> subst e <;> clear h <;> grind
theorem ma_cpow {p : Nat} {K : Type} [Lean.Grind.CommRing K] {x : K} {ln : K → Nat} (h : KX p K x ln) (c : Nat) : (nc c : K) ^ p = nc c := by
  have e : ∀ n, (nc (c ^ n) : K) = nc c ^ n := by
    intro n
    induction n with
    | zero => rw [Nat.pow_zero, Lean.Grind.Semiring.pow_zero]; grind
    | succ n ih => rw [Nat.pow_succ, nc_mul, ih, Lean.Grind.Semiring.pow_succ]
  rw [← e, ← ma_cmod h (c ^ p), Nat.pow_mod, h.1.fer _ (ma_lt h c), ma_cmod h]
theorem ma_frobm {p : Nat} {K : Type} [Lean.Grind.CommRing K] {x : K} {ln : K → Nat} (h : KX p K x ln) (m : Nat) (a b : K) : (a + b) ^ (p ^ m) = a ^ (p ^ m) + b ^ (p ^ m) := by
  induction m with
  | zero => rw [ma_pow00, ma_pow00, ma_pow00]
  | succ m ih => rw [ma_pows, ma_pows, ma_pows, ih, ma_frob h]
theorem ma_frobs {p : Nat} {K : Type} [Lean.Grind.CommRing K] {x : K} {ln : K → Nat} (h : KX p K x ln) (m : Nat) (a b : K) : (a - b) ^ (p ^ m) = a ^ (p ^ m) - b ^ (p ^ m) := by
  have := ma_frobm h m (a - b) b
  rw [show a - b + b = a by grind] at this
  grind
theorem ma_cpowm {p : Nat} {K : Type} [Lean.Grind.CommRing K] {x : K} {ln : K → Nat} (h : KX p K x ln) (m : Nat) (c : Nat) : (nc c : K) ^ (p ^ m) = nc c := by
  induction m with
  | zero => rw [ma_pow00]
  | succ m ih => rw [ma_pows, ih, ma_cpow h]
/-- what divides x^(p^m) - x divides every a^(p^m) - a -/
theorem ma_all {p : Nat} {K : Type} [Lean.Grind.CommRing K] {x : K} {ln : K → Nat} (h : KX p K x ln) {f : K} {m : Nat} (hd : mdv f (x ^ (p ^ m) - x)) (a : K) : mdv f (a ^ (p ^ m) - a) := by
  refine h.2.2.1 (fun a => mdv f (a ^ (p ^ m) - a)) ?_ (fun c b hc ih => ?_) a
  · have e := ma_cpowm h m 0
    rw [show (nc 0 : K) = 0 by grind] at e
    rw [e]
    exact mdv_e (mdv_0 f) (by grind)
  · rw [ma_frobm h, ma_cpowm h, Lean.Grind.CommSemiring.mul_pow]
    exact mdv_e (mdv_a (mdv_mr (b ^ p ^ m) hd) (mdv_ml x ih)) (by grind)
/-- polynomial functions of degree n with head c -/
def isP {K : Type} [Lean.Grind.CommRing K] : Nat → (K → K) → K → Prop
  | 0, φ, c => ∀ t, φ t = c
  | n + 1, φ, c => ∀ s, ∃ ψ, isP n ψ c ∧ ∀ t, φ t - φ s = (t - s) * ψ t
theorem isP_roots {K : Type} [Lean.Grind.CommRing K] {f : K} (hf : ∀ a b, mdv f (a * b) → mdv f a ∨ mdv f b) {n : Nat} {φ : K → K} {c : K} (hP : isP n φ c) (r : Nat → K) (hr : ∀ i j, i < j → j ≤ n → ¬ mdv f (r i - r j)) (hz : ∀ i, i ≤ n → mdv f (φ (r i))) : mdv f c := by
  induction n generalizing φ with
  | zero => exact mdv_e (hz 0 (Nat.le_refl _)) (hP _)
  | succ n ih =>
    obtain ⟨ψ, h1, h2⟩ := hP (r (n + 1))
    refine ih h1 (fun i j hi hj => hr i j hi (by omega)) (fun i hi => ?_)
    have e := h2 (r i)
    rcases hf _ _ (mdv_e (mdv_s (hz i (by omega)) (hz (n + 1) (by omega))) e) with h3 | h3
    · exact absurd h3 (hr i (n + 1) (by omega) (by omega))
    · exact h3
theorem isP_up {K : Type} [Lean.Grind.CommRing K] {n : Nat} {φ : K → K} {c : K} (hP : isP n φ c) : isP (n + 1) φ 0 := by
  induction n generalizing φ with
  | zero => exact fun s => ⟨fun _ => 0, fun _ => rfl, fun t => by rw [hP t, hP s]; grind⟩
  | succ n ih =>
    intro s
    obtain ⟨ψ, h1, h2⟩ := hP s
    exact ⟨ψ, ih h1, h2⟩
theorem isP_add {K : Type} [Lean.Grind.CommRing K] {n : Nat} {φ χ : K → K} {c d : K} (hP : isP n φ c) (hQ : isP n χ d) : isP n (fun t => φ t + χ t) (c + d) := by
  induction n generalizing φ χ with
  | zero => exact fun t => by show φ t + χ t = c + d; rw [hP t, hQ t]
  | succ n ih =>
    intro s
    obtain ⟨ψ, h1, h2⟩ := hP s
    obtain ⟨ω, k1, k2⟩ := hQ s
    exact ⟨_, ih h1 k1, fun t => by have := h2 t; have := k2 t; grind⟩
theorem isP_smul {K : Type} [Lean.Grind.CommRing K] {n : Nat} {φ : K → K} {c : K} (u : K) (hP : isP n φ c) : isP n (fun t => u * φ t) (u * c) := by
  induction n generalizing φ with
  | zero => exact fun t => by show u * φ t = u * c; rw [hP t]
  | succ n ih =>
    intro s
    obtain ⟨ψ, h1, h2⟩ := hP s
    exact ⟨_, ih h1, fun t => by have := h2 t; grind⟩
theorem isP_upn {K : Type} [Lean.Grind.CommRing K] {n : Nat} {φ : K → K} {c : K} (hP : isP n φ c) (k : Nat) : isP (n + 1 + k) φ 0 := by
  induction k with
  | zero => exact isP_up hP
  | succ k ih => exact isP_up ih
theorem isP_x {K : Type} [Lean.Grind.CommRing K] {n : Nat} {φ : K → K} {c : K} (hP : isP n φ c) : isP (n + 1) (fun t => t * φ t) c := by
  cases n with
  | zero => exact fun s => ⟨fun _ => c, fun _ => rfl, fun t => by show t * φ t - s * φ s = _; rw [hP t, hP s]; grind⟩
  | succ n =>
    intro s
    obtain ⟨ψ, h1, h2⟩ := hP s
    refine ⟨fun t => φ t + s * ψ t, ?_, fun t => by have := h2 t; grind⟩
    have e : c = c + s * 0 := by grind
    rw [e]
    exact isP_add hP (isP_smul s (isP_up h1))
theorem isP_cst {K : Type} [Lean.Grind.CommRing K] {n : Nat} {φ : K → K} {c : K} (u : K) (hP : isP (n + 1) φ c) : isP (n + 1) (fun t => u + φ t) c := by
  intro s
  obtain ⟨ψ, h1, h2⟩ := hP s
  exact ⟨ψ, h1, fun t => by have := h2 t; grind⟩
theorem isP_pow {K : Type} [Lean.Grind.CommRing K] (n : Nat) : isP n (fun t : K => t ^ n) 1 := by
  induction n with
  | zero => exact fun t => Lean.Grind.Semiring.pow_zero t
  | succ n ih =>
    have := isP_x ih
    have e : (fun t : K => t * t ^ n) = (fun t => t ^ (n + 1)) := funext (fun t => by rw [Lean.Grind.Semiring.pow_succ]; grind)
    rwa [e] at this
/-- every polynomial as a function -/
theorem ma_fun {p : Nat} {K : Type} [Lean.Grind.CommRing K] {x : K} {ln : K → Nat} (h : KX p K x ln) (a : K) (ha : a ≠ 0) : ∃ (φ : K → K) (l : Nat), (nc l : K) ≠ 0 ∧ isP (ln a - 1) φ (nc l) ∧ φ x = a ∧ ∀ t, φ (t ^ p) = φ t ^ p := by
  revert ha
  refine h.2.2.1 (fun a => a ≠ 0 → ∃ (φ : K → K) (l : Nat), (nc l : K) ≠ 0 ∧ isP (ln a - 1) φ (nc l) ∧ φ x = a ∧ ∀ t, φ (t ^ p) = φ t ^ p) (fun e => absurd rfl e) (fun c b hc ih ha => ?_) a
  by_cases hb : b = 0
  · subst hb
    have e0 : (nc c : K) + x * 0 = nc c := by grind
    rw [e0] at ha ⊢
    have l1 := ma_lnc h c
    exact ⟨fun _ => nc c, c, ha, by rw [show ln (nc c : K) - 1 = 0 by omega]; exact fun _ => rfl, rfl, fun t => (ma_cpow h c).symm⟩
  · obtain ⟨φ, l, h1, h2, h3, h4⟩ := ih hb
    have l0 : ln b ≠ 0 := fun e => hb ((ma_ln0 h).1 e)
    refine ⟨fun t => nc c + t * φ t, l, h1, ?_, by show nc c + x * φ x = _; rw [h3], fun t => ?_⟩
    · rw [ma_lnx h c hb, show ln b + 1 - 1 = (ln b - 1) + 1 by omega]
      exact isP_cst _ (isP_x h2)
    · show nc c + t ^ p * φ (t ^ p) = (nc c + t * φ t) ^ p
      rw [ma_frob h, ma_cpow h, Lean.Grind.CommSemiring.mul_pow, h4]
/-- the residues: n digits -/
def enr {K : Type} [Lean.Grind.CommRing K] (p : Nat) (x : K) : Nat → Nat → K
  | 0, _ => 0
  | n + 1, c => nc (c % p) + x * enr p x n (c / p)
theorem enr_ln {p : Nat} {K : Type} [Lean.Grind.CommRing K] {x : K} {ln : K → Nat} (h : KX p K x ln) (n c : Nat) : ln (enr p x n c) ≤ n := by
  induction n generalizing c with
  | zero => show ln 0 ≤ 0; rw [h.2.2.2.2.1]; omega
  | succ n ih =>
    have := ih (c / p)
    have := ma_lnle h (c % p) (enr p x n (c / p))
    show ln (nc (c % p) + x * enr p x n (c / p)) ≤ n + 1
    omega
theorem ma_inj {p : Nat} {K : Type} [Lean.Grind.CommRing K] {x : K} {ln : K → Nat} (h : KX p K x ln) {c d : Nat} {a b : K} (e : (nc c : K) + x * a = nc d + x * b) : c % p = d % p ∧ a = b := by
  have h2 := h.1.two
  have e2 : (nc ((c + (p - 1) * d) % p) : K) + x * (a - b) = 0 := by
    rw [ma_cmod h, nc_add, nc_mul, ma_neg1 h]; grind
  obtain ⟨e3, e4⟩ := h.2.2.2.1 _ _ (ma_lt h _) e2
  have e5 : a = b := by grind
  refine ⟨?_, e5⟩
  have e6 : (c + (p - 1) * d + d) % p = d % p := by rw [Nat.add_mod, e3, Nat.zero_add, Nat.mod_mod]
  rw [Nat.add_assoc, show (p - 1) * d + d = p * d by rw [show (p - 1) * d + d = (p - 1 + 1) * d by grind, Nat.sub_add_cancel (by omega)], Nat.add_mul_mod_self_left] at e6
  exact e6
theorem enr_inj {p : Nat} {K : Type} [Lean.Grind.CommRing K] {x : K} {ln : K → Nat} (h : KX p K x ln) {n c d : Nat} (hc : c < p ^ n) (hd : d < p ^ n) (e : enr p x n c = enr p x n d) : c = d := by
  have h2 := h.1.two
  induction n generalizing c d with
  | zero => rw [Nat.pow_zero] at hc hd; omega
  | succ n ih =>
    obtain ⟨e1, e2⟩ := ma_inj h e
    rw [Nat.mod_mod, Nat.mod_mod] at e1
    rw [Nat.pow_succ, Nat.mul_comm] at hc hd
    have e3 := ih (Nat.div_lt_of_lt_mul hc) (Nat.div_lt_of_lt_mul hd) e2
    rw [← Nat.div_add_mod c p, ← Nat.div_add_mod d p, e1, e3]
theorem enr_nd {p : Nat} {K : Type} [Lean.Grind.CommRing K] {x : K} {ln : K → Nat} (h : KX p K x ln) {f : K} {n c d : Nat} (hf : n < ln f) (hc : c < p ^ n) (hd : d < p ^ n) (hne : c ≠ d) : ¬ mdv f (enr p x n c - enr p x n d) := fun hm => by
  have l1 := enr_ln h n c
  have l2 := enr_ln h n d
  have l3 := ma_lnsub h (enr p x n c) (enr p x n d)
  have e := ma_dv0 h hm (by omega)
  exact hne (enr_inj h hc hd (by grind))
/-- an irreducible one that divides x^(p^m) - x has at most degree m -/
theorem ma_degle {p : Nat} {K : Type} [Lean.Grind.CommRing K] {x : K} {ln : K → Nat} (h : KX p K x ln) {f : K} (hf : irr ln f) {m : Nat} (hm : 1 ≤ m) (hd : mdv f (x ^ (p ^ m) - x)) : ln f ≤ m + 1 := by
  have h2 := h.1.two
  apply Classical.byContradiction
  intro hl
  have hp1 : 2 ≤ p ^ m := Nat.le_trans h2.1 (by have := Nat.pow_le_pow_right (n := p) (by omega) hm; rwa [Nat.pow_one] at this)
  have hP : isP (p ^ m) (fun t : K => t ^ (p ^ m) + (-1) * t) (1 + (-1) * 0) := by
    refine isP_add (isP_pow _) (isP_smul (-1) ?_)
    have h1 : isP 1 (fun t : K => t) 1 := by
      have := isP_pow (K := K) 1
      rwa [show (fun t : K => t ^ 1) = (fun t => t) from funext (fun t => ma_pow1 t)] at this
    have := isP_upn h1 (p ^ m - 2)
    rwa [show 1 + 1 + (p ^ m - 2) = p ^ m by omega] at this
  have hlt : p ^ m < p ^ (m + 1) := Nat.pow_lt_pow_right (by omega) (by omega)
  have := isP_roots (fun a b => hf.prime h) hP (fun i => enr p x (m + 1) i) (fun i j hi hj => enr_nd h (by omega) (by omega) (by omega) (by omega)) (fun i _ => mdv_e (ma_all h hd (enr p x (m + 1) i)) (by grind))
  exact hf.n1 h (mdv_e this (by grind))
/-- an irreducible one of degree d divides x^(p^d) - x -/
theorem ma_fermat {p : Nat} {K : Type} [Lean.Grind.CommRing K] {x : K} {ln : K → Nat} (h : KX p K x ln) {f : K} (hf : irr ln f) : mdv f (x ^ (p ^ (ln f - 1)) - x) := by
  obtain ⟨φ, l, h1, h2, h3, h4⟩ := ma_fun h f (hf.nz h)
  have hz : ∀ i, φ (x ^ (p ^ i)) = f ^ (p ^ i) := by
    intro i
    induction i with
    | zero => rw [ma_pow00, ma_pow00, h3]
    | succ i ih => rw [ma_pows, h4, ih, ← ma_pows]
  have hfp : ∀ i, mdv f (f ^ (p ^ i)) := by
    intro i
    have : 0 < p ^ i := Nat.pow_pos (by have := h.1.two; omega)
    rw [show p ^ i = (p ^ i - 1) + 1 by omega, Lean.Grind.Semiring.pow_succ]
    exact mdv_rr _ _
  have ex : ∃ i j, i < j ∧ j ≤ ln f - 1 ∧ mdv f (x ^ (p ^ i) - x ^ (p ^ j)) := by
    apply Classical.byContradiction
    intro hn
    have := isP_roots (fun a b => hf.prime h) h2 (fun i => x ^ (p ^ i)) (fun i j hi hj hd => hn ⟨i, j, hi, hj, hd⟩) (fun i _ => by show mdv f (φ (x ^ (p ^ i))); rw [hz]; exact hfp i)
    exact h1 (hf.ncz h this)
  obtain ⟨i, j, hi, hj, hd⟩ := ex
  have hd2 : mdv f ((x - x ^ (p ^ (j - i))) ^ (p ^ i)) := by
    rw [ma_frobs h, ← ma_powmul, ← Nat.pow_add, Nat.sub_add_cancel (by omega)]
    exact hd
  have hd3 := hf.pow h _ hd2
  have hd4 : mdv f (x ^ (p ^ (j - i)) - x) := mdv_e (mdv_n hd3) (by grind)
  have := ma_degle h hf (by omega) hd4
  rwa [show j - i = ln f - 1 by omega] at hd4
end MB
