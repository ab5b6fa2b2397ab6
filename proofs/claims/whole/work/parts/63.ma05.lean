/-! the ring exists, and its coefficients -/
def CO (p : Nat) (K : Type) [Lean.Grind.CommRing K] (x : K) (ln : K → Nat) (co : K → Nat → Int) : Prop :=
  (∀ a b, (∀ n, co a n = co b n) → a = b) ∧ (∀ a, pOK p (co a)) ∧ (∀ F, pOK p F → ∃ a, co a = F) ∧
  (∀ a b n, co (a + b) n = (co a n + co b n) % p) ∧ (∀ (c : Nat) a n, co (nc c * a) n = (c * co a n) % p) ∧
  (∀ a, co (x * a) 0 = 0 ∧ ∀ n, co (x * a) (n + 1) = co a n) ∧ (∀ (c n : Nat), co (nc c) n = if n = 0 then (c : Int) % p else 0) ∧
  (∀ a, (∀ n, ln a ≤ n → co a n = 0) ∧ (ln a ≠ 0 → co a (ln a - 1) ≠ 0))
def TH (K : Type) [Lean.Grind.CommRing K] (x : K) (th : K → K) : Prop :=
  (∀ a b, th (a * b) = th a * b + a * th b) ∧ (∀ a b, th (a - b) = th a - th b) ∧ th x = x
def LNp (F : Nat → Int) (n : Nat) : Prop := (∀ m, n ≤ m → F m = 0) ∧ (n ≠ 0 → F (n - 1) ≠ 0)
theorem LNp.ex {F : Nat → Int} (N : Nat) (hN : ∀ m, N ≤ m → F m = 0) : ∃ n, LNp F n := by
  induction N with
  | zero => exact ⟨0, hN, fun e => absurd rfl e⟩
  | succ N ih =>
    by_cases e : F N = 0
    · exact ih (fun m hm => by by_cases e2 : m = N; (· rw [e2, e]); (· exact hN m (by omega)))
    · exact ⟨N + 1, hN, fun _ => e⟩
theorem LNp.uq {F : Nat → Int} {m n : Nat} (hm : LNp F m) (hn : LNp F n) : m = n := by
  apply Classical.byContradiction
  intro hne
  rcases Nat.lt_or_gt_of_ne hne with h | h
  · exact hn.2 (by omega) (hm.1 _ (by omega))
  · exact hm.2 (by omega) (hn.1 _ (by omega))
noncomputable def fx_ln {p : Nat} (a : FX p) : Nat := Classical.choose (a.2.2.elim (fun N hN => LNp.ex (F := a.1) N hN))
theorem fx_ln_spec {p : Nat} (a : FX p) : LNp a.1 (fx_ln a) := Classical.choose_spec (a.2.2.elim (fun N hN => LNp.ex (F := a.1) N hN))
def fx_x {p : Nat} (hp : 2 ≤ p) : FX p := fx_mk hp (fun i => if i = 1 then 1 else 0) ⟨2, fun i hi => by simp; omega⟩
theorem fx_xm {p : Nat} (hp : 2 ≤ p) (a : FX p) : (fx_mul hp (fx_x hp) a).1 0 = 0 ∧ ∀ n, (fx_mul hp (fx_x hp) a).1 (n + 1) = a.1 n := by
  have e : ∀ n, (fx_mul hp (fx_x hp) a).1 n = cnv (fun i => if i = 1 then 1 else 0) a.1 n % p := fun n => cnv_mod (fun i => by show (if i = 1 then 1 else 0) % (p : Int) % p = _; rw [Int.emod_emod_of_dvd _ (Int.dvd_refl _)]) (fun _ => rfl) n
  refine ⟨by rw [e]; simp [cnv], fun n => ?_⟩
  rw [e, cnv_s]
  have e2 : (fun i => if i + 1 = 1 then (1 : Int) else 0) = (fun i => if i = 0 then 1 else 0) := funext (fun i => by simp)
  simp only [e2, cnv_one]
  simp [a.2.e]
theorem cnv_th (F G : Nat → Int) (n : Nat) : (n : Int) * cnv F G n = cnv (fun i => i * F i) G n + cnv F (fun i => i * G i) n := by
  induction n generalizing F with
  | zero => simp [cnv]
  | succ n ih =>
    rw [cnv_s, cnv_s, cnv_s]
    have e : (fun i => ((i + 1 : Nat) : Int) * F (i + 1)) = (fun i => F (i + 1) + (i : Int) * F (i + 1)) := funext (fun i => by rw [Int.natCast_add]; grind)
    rw [e, cnv_addL (fun i => F (i + 1)) (fun i => (i : Int) * F (i + 1))]
    have := ih (fun i => F (i + 1))
    rw [Int.natCast_add]
    grind
def fx_th {p : Nat} (hp : 2 ≤ p) (a : FX p) : FX p := fx_mk hp (fun i => i * a.1 i) (by obtain ⟨N, h⟩ := a.2.2; exact ⟨N, fun x hx => by rw [h x hx, Int.mul_zero]⟩)
theorem fx_c_co {p : Nat} (hp : 2 ≤ p) (z : Int) (n : Nat) : (fx_c hp z).1 n = if n = 0 then z % p else 0 := by
  show (if n = 0 then z else 0) % (p : Int) = _
  split <;> simp
theorem fx_cm {p : Nat} (hp : 2 ≤ p) (z : Int) (a : FX p) (n : Nat) : (fx_mul hp (fx_c hp z) a).1 n = (z * a.1 n) % p := by
  show cnv (fx_c hp z).1 a.1 n % p = _
  rw [cnv_mod (F' := fun i => z * (if i = 0 then 1 else 0)) (G' := a.1) (fun i => by rw [fx_c_co]; split <;> simp) (fun _ => rfl) n, cnv_mulL, cnv_one]
theorem KX_ex {p : Nat} (h6 : p6 p) : ∃ (K : Type) (_ : Lean.Grind.CommRing K) (x : K) (ln : K → Nat) (co : K → Nat → Int) (th : K → K), KX p K x ln ∧ CO p K x ln co ∧ TH K x th := by
  have hp := h6.two.1
  have cc : ∀ (c : Nat) (b : FX p), (fx_add hp (fx_c hp c) (fx_mul hp (fx_x hp) b)).1 0 = (c : Int) % p ∧ ∀ n, (fx_add hp (fx_c hp c) (fx_mul hp (fx_x hp) b)).1 (n + 1) = b.1 n := by
    intro c b
    have hx := fx_xm hp b
    refine ⟨?_, fun n => ?_⟩
    · show ((fx_c hp c).1 0 + (fx_mul hp (fx_x hp) b).1 0) % p = _
      rw [hx.1, fx_c_co]; simp
    · show ((fx_c hp c).1 (n + 1) + (fx_mul hp (fx_x hp) b).1 (n + 1)) % p = _
      rw [hx.2, fx_c_co]; simp [b.2.e]
  have z0 : ∀ n, (fx_c hp 0).1 n = 0 := fun n => by rw [fx_c_co]; simp
  refine ⟨FX p, fx_ring hp, fx_x hp, fx_ln, fun a => a.1, fx_th hp, ⟨h6, ?_, ?_, ?_, ?_, ?_⟩, ⟨?_, ?_, ?_, ?_, ?_, ?_, ?_, ?_⟩, ?_, ?_, ?_⟩
  · exact fx_ext (fun n => by
      show (fx_c hp p).1 n = (fx_c hp 0).1 n
      rw [fx_c_co, fx_c_co]; simp)
  · intro P h0 hs a
    obtain ⟨N, hN⟩ := a.2.2
    induction N generalizing a with
    | zero =>
      have e : a = fx_c hp 0 := fx_ext (fun n => by rw [z0, hN n (by omega)])
      rw [e]; exact h0
    | succ N ih =>
      have ht : pOK p (fun i => a.1 (i + 1)) := ⟨fun i => a.2.1 _, N, fun i hi => hN _ (by omega)⟩
      have hi := ih ⟨_, ht⟩ (fun i hi => hN _ (by omega))
      have hr := a.2.1 0
      have e : a = fx_add hp (fx_c hp (a.1 0).toNat) (fx_mul hp (fx_x hp) ⟨_, ht⟩) := fx_ext (fun n => by
        have := cc (a.1 0).toNat ⟨_, ht⟩
        cases n with
        | zero => rw [this.1, Int.toNat_of_nonneg hr.1, a.2.e]
        | succ n => rw [this.2])
      rw [e]
      exact hs (a.1 0).toNat _ (by omega) hi
  · intro c b hc e
    have h1 := cc c b
    have e1 : ∀ n, (fx_add hp (fx_c hp c) (fx_mul hp (fx_x hp) b)).1 n = 0 := fun n => (congrArg (fun a : FX p => a.1 n) e).trans (z0 n)
    refine ⟨?_, fx_ext (fun n => ?_)⟩
    · have := (h1.1.symm.trans (e1 0))
      rw [Int.emod_eq_of_lt (by omega) (by omega)] at this
      omega
    · exact ((h1.2 n).symm.trans (e1 (n + 1))).trans (z0 n).symm
  · exact (fx_ln_spec (fx_c hp 0)).uq ⟨fun m _ => z0 m, fun e => absurd rfl e⟩
  · intro c b hc hne
    have h1 := cc c b
    have hb := fx_ln_spec b
    refine (fx_ln_spec _).uq ⟨fun m hm => ?_, fun _ => ?_⟩
    · cases m with
      | zero => omega
      | succ m => exact (h1.2 m).trans (hb.1 m (by omega))
    · show (fx_add hp (fx_c hp c) (fx_mul hp (fx_x hp) b)).1 (fx_ln b + 1 - 1) ≠ 0
      by_cases hl : fx_ln b = 0
      · rw [hl, h1.1, Int.emod_eq_of_lt (by omega) (by omega)]
        intro e
        exact hne ⟨by omega, fx_ext (fun n => (hb.1 n (by omega)).trans (z0 n).symm)⟩
      · rw [show fx_ln b + 1 - 1 = (fx_ln b - 1) + 1 by omega, h1.2]
        exact hb.2 hl
  · exact fun a b e => fx_ext e
  · exact fun a => a.2
  · exact fun F hF => ⟨⟨F, hF⟩, rfl⟩
  · exact fun a b n => rfl
  · exact fun c a n => fx_cm hp c a n
  · exact fun a => fx_xm hp a
  · exact fun c n => fx_c_co hp c n
  · exact fun a => fx_ln_spec a
  · intro a b
    refine fx_ext (fun n => ?_)
    show ((n : Int) * (cnv a.1 b.1 n % p)) % p = (cnv (fun i => ((i : Int) * a.1 i) % p) b.1 n % p + cnv a.1 (fun i => ((i : Int) * b.1 i) % p) n % p) % p
    rw [cnv_mod (F := fun i => ((i : Int) * a.1 i) % p) (F' := fun i => (i : Int) * a.1 i) (G' := b.1) (fun i => by rw [Int.emod_emod_of_dvd _ (Int.dvd_refl _)]) (fun _ => rfl) n, cnv_mod (G := fun i => ((i : Int) * b.1 i) % p) (G' := fun i => (i : Int) * b.1 i) (F' := a.1) (fun _ => rfl) (fun i => by rw [Int.emod_emod_of_dvd _ (Int.dvd_refl _)]) n, ← Int.add_emod, ← cnv_th, Int.mul_emod, Int.emod_emod_of_dvd _ (Int.dvd_refl _), ← Int.mul_emod]
  · intro a b
    refine fx_ext (fun n => ?_)
    show ((n : Int) * ((a.1 n + (- b.1 n) % p) % p)) % p = (((n : Int) * a.1 n) % p + (- (((n : Int) * b.1 n) % p)) % p) % p
    rw [Int.mul_emod, Int.emod_emod_of_dvd _ (Int.dvd_refl _), ← Int.mul_emod, show a.1 n + (- b.1 n) % (p : Int) = (- b.1 n) % (p : Int) + a.1 n by omega, Int.mul_emod, Int.emod_add_emod, ← Int.mul_emod]
    rw [show -((n : Int) * b.1 n % p) = 0 - (n : Int) * b.1 n % p by omega, Int.sub_emod_emod, ← Int.add_emod]
    congr 1
    grind
  · refine fx_ext (fun n => ?_)
    show ((n : Int) * ((if n = 1 then 1 else 0) % (p : Int))) % p = (if n = 1 then 1 else 0) % (p : Int)
    by_cases e : n = 1
    · subst e; simp
    · simp [e]
