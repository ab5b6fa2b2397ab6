/-! polynomials modulo p as a commutative ring -/
def cnv : (Nat → Int) → (Nat → Int) → Nat → Int
  | F, G, 0 => F 0 * G 0
  | F, G, n + 1 => F 0 * G (n + 1) + cnv (fun i => F (i + 1)) G n
theorem cnv_s (F G : Nat → Int) (n : Nat) : cnv F G (n + 1) = F 0 * G (n + 1) + cnv (fun i => F (i + 1)) G n := rfl
theorem cnv_addL (F F' G : Nat → Int) (n : Nat) : cnv (fun i => F i + F' i) G n = cnv F G n + cnv F' G n := by
  induction n generalizing F F' with
  | zero => simp only [cnv]; grind
  | succ n ih => rw [cnv_s, cnv_s, cnv_s, ih (fun i => F (i + 1)) (fun i => F' (i + 1))]; grind
theorem cnv_addR (F G G' : Nat → Int) (n : Nat) : cnv F (fun i => G i + G' i) n = cnv F G n + cnv F G' n := by
  induction n generalizing F with
  | zero => simp only [cnv]; grind
  | succ n ih => rw [cnv_s, cnv_s, cnv_s, ih]; grind
theorem cnv_mulL (c : Int) (F G : Nat → Int) (n : Nat) : cnv (fun i => c * F i) G n = c * cnv F G n := by
  induction n generalizing F with
  | zero => simp only [cnv]; grind
  | succ n ih => rw [cnv_s, cnv_s, ih (fun i => F (i + 1))]; grind
theorem cnv_r (F G : Nat → Int) (n : Nat) : cnv F G (n + 1) = F (n + 1) * G 0 + cnv F (fun i => G (i + 1)) n := by
  induction n generalizing F with
  | zero => simp only [cnv]; grind
  | succ n ih => rw [cnv_s, ih, cnv_s]; grind
theorem cnv_comm (F G : Nat → Int) (n : Nat) : cnv F G n = cnv G F n := by
  induction n generalizing F with
  | zero => simp only [cnv]; grind
  | succ n ih => rw [cnv_s, cnv_r, ih]; grind
theorem cnv_assoc (F G H : Nat → Int) (n : Nat) : cnv (cnv F G) H n = cnv F (cnv G H) n := by
  induction n generalizing F with
  | zero => simp only [cnv]; grind
  | succ n ih =>
    rw [cnv_s, cnv_s]
    have e : (fun i => cnv F G (i + 1)) = (fun i => F 0 * G (i + 1) + cnv (fun i => F (i + 1)) G i) := rfl
    rw [e, cnv_addL, cnv_mulL (F 0) (fun i => G (i + 1)), ih, cnv_s]
    simp only [cnv]
    grind
theorem cnv_mod {p : Int} {F F' G G' : Nat → Int} (hF : ∀ i, F i % p = F' i % p) (hG : ∀ i, G i % p = G' i % p) (n : Nat) : cnv F G n % p = cnv F' G' n % p := by
  induction n generalizing F F' with
  | zero => simp only [cnv]; rw [Int.mul_emod, hF, hG, ← Int.mul_emod]
  | succ n ih => rw [cnv_s, cnv_s, Int.add_emod, Int.mul_emod, hF, hG, ← Int.mul_emod, ih (F' := fun i => F' (i + 1)) (fun i => hF (i + 1)), ← Int.add_emod]
theorem cnv_zero {F G : Nat → Int} {n : Nat} (h : ∀ i, i ≤ n → F i * G (n - i) = 0) : cnv F G n = 0 := by
  induction n generalizing F with
  | zero => simpa [cnv] using h 0 (Nat.le_refl _)
  | succ n ih =>
    rw [cnv_s, ih (fun i hi => by have := h (i + 1) (by omega); rwa [Nat.add_sub_add_right] at this), show F 0 * G (n + 1) = 0 from h 0 (by omega)]
    rfl
theorem cnv_one (G : Nat → Int) (n : Nat) : cnv (fun i => if i = 0 then 1 else 0) G n = G n := by
  cases n with
  | zero => simp [cnv]
  | succ n => rw [cnv_s, cnv_zero (n := n) (fun i _ => by simp)]; simp
def pOK (p : Nat) (F : Nat → Int) : Prop := (∀ x, 0 ≤ F x ∧ F x < p) ∧ ∃ N, ∀ x, N ≤ x → F x = 0
def FX (p : Nat) : Type := {F : Nat → Int // pOK p F}
theorem pOK_mod {p : Nat} (hp : 2 ≤ p) {F : Nat → Int} (h : ∃ N, ∀ x, N ≤ x → F x = 0) : pOK p (fun x => F x % p) :=
  ⟨fun x => ⟨Int.emod_nonneg _ (by omega), Int.emod_lt_of_pos _ (by omega)⟩, by
    obtain ⟨N, hN⟩ := h
    exact ⟨N, fun x hx => by simp [hN x hx]⟩⟩
theorem pOK.e {p : Nat} {F : Nat → Int} (h : pOK p F) (x : Nat) : F x % p = F x := Int.emod_eq_of_lt (h.1 x).1 (h.1 x).2
def fx_mk {p : Nat} (hp : 2 ≤ p) (F : Nat → Int) (h : ∃ N, ∀ x, N ≤ x → F x = 0) : FX p := ⟨fun x => F x % p, pOK_mod hp h⟩
theorem fx_add_fs {F G : Nat → Int} (h : ∃ N, ∀ x, N ≤ x → F x = 0) (k : ∃ N, ∀ x, N ≤ x → G x = 0) : ∃ N, ∀ x, N ≤ x → F x + G x = 0 := by
  obtain ⟨N, h⟩ := h
  obtain ⟨M, k⟩ := k
  exact ⟨N + M, fun x hx => by rw [h x (by omega), k x (by omega)]; rfl⟩
theorem fx_mul_fs {F G : Nat → Int} (h : ∃ N, ∀ x, N ≤ x → F x = 0) (k : ∃ N, ∀ x, N ≤ x → G x = 0) : ∃ N, ∀ x, N ≤ x → cnv F G x = 0 := by
  obtain ⟨N, h⟩ := h
  obtain ⟨M, k⟩ := k
  refine ⟨N + M, fun x hx => cnv_zero (fun i hi => ?_)⟩
  by_cases hc : N ≤ i
  · rw [h i hc, Int.zero_mul]
  · rw [k (x - i) (by omega), Int.mul_zero]
theorem fx_ext {p : Nat} {a b : FX p} (h : ∀ x, a.1 x = b.1 x) : a = b := Subtype.ext (funext h)
def fx_c {p : Nat} (hp : 2 ≤ p) (z : Int) : FX p := fx_mk hp (fun x => if x = 0 then z else 0) ⟨1, fun x hx => by simp; omega⟩
def fx_add {p : Nat} (hp : 2 ≤ p) (a b : FX p) : FX p := fx_mk hp (fun x => a.1 x + b.1 x) (fx_add_fs a.2.2 b.2.2)
def fx_neg {p : Nat} (hp : 2 ≤ p) (a : FX p) : FX p := fx_mk hp (fun x => - a.1 x) (by obtain ⟨N, h⟩ := a.2.2; exact ⟨N, fun x hx => by rw [h x hx]; rfl⟩)
def fx_mul {p : Nat} (hp : 2 ≤ p) (a b : FX p) : FX p := fx_mk hp (cnv a.1 b.1) (fx_mul_fs a.2.2 b.2.2)
def fx_pow {p : Nat} (hp : 2 ≤ p) (a : FX p) : Nat → FX p
  | 0 => fx_c hp 1
  | n + 1 => fx_mul hp (fx_pow hp a n) a
theorem fx_mul_comm {p : Nat} (hp : 2 ≤ p) (a b : FX p) : fx_mul hp a b = fx_mul hp b a := fx_ext (fun x => by
  show cnv a.1 b.1 x % p = cnv b.1 a.1 x % p
  rw [cnv_comm])
theorem fx_one_mul {p : Nat} (hp : 2 ≤ p) (a : FX p) : fx_mul hp (fx_c hp 1) a = a := fx_ext (fun x => by
  show cnv (fun x => (if x = 0 then 1 else 0) % (p : Int)) a.1 x % p = a.1 x
  rw [cnv_mod (F' := fun i => if i = 0 then 1 else 0) (fun i => by rw [Int.emod_emod_of_dvd _ (Int.dvd_refl _)]) (fun i => rfl) x, cnv_one, a.2.e])
theorem fx_assoc {p : Nat} (hp : 2 ≤ p) (a b c : FX p) : fx_mul hp (fx_mul hp a b) c = fx_mul hp a (fx_mul hp b c) := fx_ext (fun x => by
  show cnv (fun x => cnv a.1 b.1 x % (p : Int)) c.1 x % p = cnv a.1 (fun x => cnv b.1 c.1 x % (p : Int)) x % p
  rw [cnv_mod (F' := cnv a.1 b.1) (fun i => by rw [Int.emod_emod_of_dvd _ (Int.dvd_refl _)]) (fun i => rfl) x, cnv_assoc]
  exact (cnv_mod (F' := a.1) (G' := cnv b.1 c.1) (fun i => rfl) (fun i => by rw [Int.emod_emod_of_dvd _ (Int.dvd_refl _)]) x).symm)
theorem fx_distr {p : Nat} (hp : 2 ≤ p) (a b c : FX p) : fx_mul hp a (fx_add hp b c) = fx_add hp (fx_mul hp a b) (fx_mul hp a c) := fx_ext (fun x => by
  show cnv a.1 (fun x => (b.1 x + c.1 x) % (p : Int)) x % p = (cnv a.1 b.1 x % p + cnv a.1 c.1 x % p) % p
  rw [cnv_mod (F' := a.1) (G' := fun x => b.1 x + c.1 x) (fun i => rfl) (fun i => by rw [Int.emod_emod_of_dvd _ (Int.dvd_refl _)]) x, cnv_addR, Int.add_emod])
abbrev fx_semi {p : Nat} (hp : 2 ≤ p) : Lean.Grind.Semiring (FX p) :=
  { add := fx_add hp, mul := fx_mul hp, natCast := ⟨fun n => fx_c hp n⟩, ofNat := fun n => ⟨fx_c hp n⟩, nsmul := ⟨fun n a => fx_mul hp (fx_c hp n) a⟩, npow := ⟨fun a n => fx_pow hp a n⟩,
    add_zero := fun a => fx_ext (fun x => by
      show (a.1 x + (if x = 0 then ((0 : Nat) : Int) else 0) % (p : Int)) % p = a.1 x
      rw [show (if x = 0 then ((0 : Nat) : Int) else 0) = 0 by split <;> rfl, Int.zero_emod, Int.add_zero, a.2.e]),
    add_comm := fun a b => fx_ext (fun x => by
      show (a.1 x + b.1 x) % (p : Int) = (b.1 x + a.1 x) % p
      rw [Int.add_comm]),
    add_assoc := fun a b c => fx_ext (fun x => by
      show ((a.1 x + b.1 x) % (p : Int) + c.1 x) % p = (a.1 x + (b.1 x + c.1 x) % p) % p
      rw [Int.emod_add_emod, Int.add_emod_emod, Int.add_assoc]),
    mul_assoc := fx_assoc hp,
    mul_one := fun a => (fx_mul_comm hp _ _).trans (fx_one_mul hp a),
    one_mul := fx_one_mul hp,
    left_distrib := fx_distr hp,
    right_distrib := fun a b c => (fx_mul_comm hp _ _).trans ((fx_distr hp c a b).trans (by rw [fx_mul_comm hp c a, fx_mul_comm hp c b]; rfl)),
    zero_mul := fun a => fx_ext (fun x => by
      show cnv (fun x => (if x = 0 then ((0 : Nat) : Int) else 0) % (p : Int)) a.1 x % p = (if x = 0 then ((0 : Nat) : Int) else 0) % (p : Int)
      rw [cnv_zero (fun i _ => by simp)]; simp),
    mul_zero := fun a => (fx_mul_comm hp _ _).trans (fx_ext (fun x => by
      show cnv (fun x => (if x = 0 then ((0 : Nat) : Int) else 0) % (p : Int)) a.1 x % p = (if x = 0 then ((0 : Nat) : Int) else 0) % (p : Int)
      rw [cnv_zero (fun i _ => by simp)]; simp)),
    pow_zero := fun a => rfl,
    pow_succ := fun a n => rfl,
    ofNat_succ := fun n => fx_ext (fun x => by
      show (if x = 0 then ((n + 1 : Nat) : Int) else 0) % (p : Int) = ((if x = 0 then ((n : Nat) : Int) else 0) % (p : Int) + (if x = 0 then ((1 : Nat) : Int) else 0) % (p : Int)) % p
      rw [← Int.add_emod]
      split <;> simp),
    ofNat_eq_natCast := fun n => rfl,
    nsmul_eq_natCast_mul := fun n a => rfl }
abbrev fx_ring {p : Nat} (hp : 2 ≤ p) : Lean.Grind.CommRing (FX p) :=
  { toSemiring := fx_semi hp, neg := fx_neg hp, sub := fun a b => fx_add hp a (fx_neg hp b), intCast := ⟨fun z => fx_c hp z⟩, zsmul := ⟨fun z a => fx_mul hp (fx_c hp z) a⟩,
    neg_add_cancel := fun a => fx_ext (fun x => by
      show ((- a.1 x) % (p : Int) + a.1 x) % p = (if x = 0 then ((0 : Nat) : Int) else 0) % (p : Int)
      rw [Int.emod_add_emod, show (if x = 0 then ((0 : Nat) : Int) else 0) = 0 by split <;> rfl]
      congr 1
      omega),
    sub_eq_add_neg := fun a b => rfl,
    neg_zsmul := fun z a => fx_ext (fun x => by
      show cnv (fun x => (if x = 0 then -z else 0) % (p : Int)) a.1 x % p = (- (cnv (fun x => (if x = 0 then z else 0) % (p : Int)) a.1 x % p)) % p
      rw [cnv_mod (F' := fun i => (-1) * (if i = 0 then z else 0)) (fun i => by rw [Int.emod_emod_of_dvd _ (Int.dvd_refl _)]; congr 1; split <;> omega) (fun i => rfl) x, cnv_mulL, cnv_mod (F := fun x => (if x = 0 then z else 0) % (p : Int)) (F' := fun i => if i = 0 then z else 0) (fun i => by rw [Int.emod_emod_of_dvd _ (Int.dvd_refl _)]) (fun i => rfl) x]
      generalize cnv (fun i => if i = 0 then z else 0) a.1 x = t
      rw [show -(t % (p : Int)) = 0 - t % p by omega, Int.sub_emod_emod]
      congr 1
      omega),
    zsmul_natCast_eq_nsmul := fun n a => rfl,
    intCast_ofNat := fun n => rfl,
    intCast_neg := fun z => fx_ext (fun x => by
      show (if x = 0 then -z else 0) % (p : Int) = (- ((if x = 0 then z else 0) % (p : Int))) % p
      generalize ht : (if x = 0 then z else 0) = t
      rw [show (if x = 0 then -z else 0) = -t by rw [← ht]; split <;> omega, show -(t % (p : Int)) = 0 - t % p by omega, Int.sub_emod_emod]
      congr 1
      omega),
    mul_comm := fx_mul_comm hp }
