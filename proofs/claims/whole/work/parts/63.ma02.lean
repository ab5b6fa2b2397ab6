/-! the ring of polynomials over a field of p numbers, by what is known of it -/
def p6 (p : Nat) : Prop := p = 2 ∨ p = 3 ∨ p = 5 ∨ p = 7 ∨ p = 11 ∨ p = 13
abbrev nc {K : Type} [Lean.Grind.CommRing K] (c : Nat) : K := @Nat.cast K Lean.Grind.Semiring.natCast c
theorem nc_add {K : Type} [Lean.Grind.CommRing K] (a b : Nat) : (nc (a + b) : K) = nc a + nc b := Lean.Grind.Semiring.natCast_add a b
theorem nc_mul {K : Type} [Lean.Grind.CommRing K] (a b : Nat) : (nc (a * b) : K) = nc a * nc b := Lean.Grind.Semiring.natCast_mul a b
def KX (p : Nat) (K : Type) [Lean.Grind.CommRing K] (x : K) (ln : K → Nat) : Prop :=
  p6 p ∧ (nc (p) : K) = 0 ∧
  (∀ P : K → Prop, P 0 → (∀ (c : Nat) (b : K), c < p → P b → P ((nc c : K) + x * b)) → ∀ a, P a) ∧
  (∀ (c : Nat) (b : K), c < p → (nc c : K) + x * b = 0 → c = 0 ∧ b = 0) ∧
  ln 0 = 0 ∧ (∀ (c : Nat) (b : K), c < p → ¬ (c = 0 ∧ b = 0) → ln ((nc c : K) + x * b) = ln b + 1)
def mdv {K : Type} [Lean.Grind.CommRing K] (a b : K) : Prop := ∃ c, b = a * c
theorem p6.two {p : Nat} (h : p6 p) : 2 ≤ p ∧ p ≤ 13 := by unfold p6 at h; omega
theorem p6.inv {p : Nat} (h : p6 p) (c : Nat) (h0 : c ≠ 0) (h1 : c < p) : ∃ u, u < p ∧ (c * u) % p = 1 := by
  rcases h with h | h | h | h | h | h <;> subst h <;> revert h0 <;> revert c <;> decide
theorem p6.fer {p : Nat} (h : p6 p) (c : Nat) (h1 : c < p) : (c ^ p) % p = c := by
  rcases h with h | h | h | h | h | h <;> subst h <;> revert c <;> decide
section MA
theorem mdv_r {K : Type} [Lean.Grind.CommRing K] (a : K) : mdv a a := ⟨1, by grind⟩
theorem mdv_0 {K : Type} [Lean.Grind.CommRing K] (a : K) : mdv a 0 := ⟨0, by grind⟩
theorem mdv_1 {K : Type} [Lean.Grind.CommRing K] (a : K) : mdv 1 a := ⟨a, by grind⟩
theorem mdv_t {K : Type} [Lean.Grind.CommRing K] {a b c : K} (h : mdv a b) (k : mdv b c) : mdv a c := by
  obtain ⟨u, h⟩ := h
  obtain ⟨v, k⟩ := k
  exact ⟨u * v, by grind⟩
theorem mdv_a {K : Type} [Lean.Grind.CommRing K] {a b c : K} (h : mdv a b) (k : mdv a c) : mdv a (b + c) := by
  obtain ⟨u, h⟩ := h
  obtain ⟨v, k⟩ := k
  exact ⟨u + v, by grind⟩
theorem mdv_s {K : Type} [Lean.Grind.CommRing K] {a b c : K} (h : mdv a b) (k : mdv a c) : mdv a (b - c) := by
  obtain ⟨u, h⟩ := h
  obtain ⟨v, k⟩ := k
  exact ⟨u - v, by grind⟩
theorem mdv_ml {K : Type} [Lean.Grind.CommRing K] {a b : K} (c : K) (h : mdv a b) : mdv a (c * b) := by
  obtain ⟨u, h⟩ := h
  exact ⟨c * u, by grind⟩
theorem mdv_mr {K : Type} [Lean.Grind.CommRing K] {a b : K} (c : K) (h : mdv a b) : mdv a (b * c) := by
  obtain ⟨u, h⟩ := h
  exact ⟨c * u, by grind⟩
theorem mdv_l {K : Type} [Lean.Grind.CommRing K] (a b : K) : mdv a (a * b) := ⟨b, rfl⟩
theorem mdv_rr {K : Type} [Lean.Grind.CommRing K] (a b : K) : mdv b (a * b) := ⟨a, by grind⟩
theorem mdv_n {K : Type} [Lean.Grind.CommRing K] {a b : K} (h : mdv a b) : mdv a (-b) := by
  obtain ⟨u, h⟩ := h
  exact ⟨-u, by grind⟩
theorem mdv_e {K : Type} [Lean.Grind.CommRing K] {a b c : K} (h : mdv a b) (e : b = c) : mdv a c := e ▸ h
theorem ma_cmod {p : Nat} {K : Type} [Lean.Grind.CommRing K] {x : K} {ln : K → Nat} (h : KX p K x ln) (c : Nat) : (nc (c % p) : K) = nc c := by
  have e : (nc c : K) = (nc (p * (c / p) + c % p) : K) := by rw [Nat.div_add_mod]
  rw [e, nc_add, nc_mul, h.2.1]
  grind
theorem ma_lt {p : Nat} {K : Type} [Lean.Grind.CommRing K] {x : K} {ln : K → Nat} (h : KX p K x ln) (c : Nat) : c % p < p := Nat.mod_lt _ (by have := h.1.two; omega)
theorem ma_cases {p : Nat} {K : Type} [Lean.Grind.CommRing K] {x : K} {ln : K → Nat} (h : KX p K x ln) (a : K) : ∃ (c : Nat) (b : K), c < p ∧ a = (nc c : K) + x * b := by
  have h2 := h.1.two
  refine h.2.2.1 (fun a => ∃ (c : Nat) (b : K), c < p ∧ a = (nc c : K) + x * b) ⟨0, 0, by omega, by grind⟩ (fun c b hc _ => ⟨c, b, hc, rfl⟩) a
theorem ma_ln0 {p : Nat} {K : Type} [Lean.Grind.CommRing K] {x : K} {ln : K → Nat} (h : KX p K x ln) {a : K} : ln a = 0 ↔ a = 0 := by
  constructor
  · intro e
    obtain ⟨c, b, hc, rfl⟩ := ma_cases h a
    by_cases hz : c = 0 ∧ b = 0
    · rw [hz.1, hz.2]; grind
    · have := h.2.2.2.2.2 c b hc hz; omega
  · rintro rfl
    exact h.2.2.2.2.1
/-- the length of c + x b is at most one above that of b -/
theorem ma_lnle {p : Nat} {K : Type} [Lean.Grind.CommRing K] {x : K} {ln : K → Nat} (h : KX p K x ln) (c : Nat) (b : K) : ln ((nc c : K) + x * b) ≤ ln b + 1 := by
  rw [← ma_cmod h c]
  by_cases hz : c % p = 0 ∧ b = 0
  · rw [hz.1, hz.2, show (nc (0) : K) + x * 0 = 0 by grind, h.2.2.2.2.1]; omega
  · rw [h.2.2.2.2.2 _ _ (ma_lt h c) hz]; omega
theorem ma_lnx {p : Nat} {K : Type} [Lean.Grind.CommRing K] {x : K} {ln : K → Nat} (h : KX p K x ln) (c : Nat) {b : K} (hb : b ≠ 0) : ln ((nc c : K) + x * b) = ln b + 1 := by
  rw [← ma_cmod h c, h.2.2.2.2.2 _ _ (ma_lt h c) (fun e => hb e.2)]
theorem ma_lnc {p : Nat} {K : Type} [Lean.Grind.CommRing K] {x : K} {ln : K → Nat} (h : KX p K x ln) (c : Nat) : ln (nc c : K) ≤ 1 := by
  have := ma_lnle h c 0
  rw [h.2.2.2.2.1, show (nc c : K) + x * 0 = (nc c : K) by grind] at this
  omega
theorem ma_lnadd {p : Nat} {K : Type} [Lean.Grind.CommRing K] {x : K} {ln : K → Nat} (h : KX p K x ln) (a b : K) : ln (a + b) ≤ max (ln a) (ln b) := by
  revert b
  refine h.2.2.1 (fun a => ∀ b, ln (a + b) ≤ max (ln a) (ln b)) (fun b => ?_) (fun c a hc ih b => ?_) a
  · rw [show (0 : K) + b = b by grind]; omega
  · obtain ⟨d, b, hd, rfl⟩ := ma_cases h b
    by_cases hz : c = 0 ∧ a = 0
    · rw [hz.1, hz.2, show (nc (0) : K) + x * 0 + ((nc d : K) + x * b) = (nc d : K) + x * b by grind]; omega
    by_cases hw : d = 0 ∧ b = 0
    · rw [hw.1, hw.2, show ((nc c : K) + x * a) + ((nc (0) : K) + x * 0) = (nc c : K) + x * a by grind]; omega
    rw [h.2.2.2.2.2 _ _ hc hz, h.2.2.2.2.2 _ _ hd hw]
    have e : ((nc c : K) + x * a) + ((nc d : K) + x * b) = (nc (c + d) : K) + x * (a + b) := by
      rw [nc_add]; grind
    rw [e]
    have := ma_lnle h (c + d) (a + b)
    have := ih b
    omega
theorem ma_lnm {p : Nat} {K : Type} [Lean.Grind.CommRing K] {x : K} {ln : K → Nat} (h : KX p K x ln) (c : Nat) (b : K) : ln ((nc c : K) * b) ≤ ln b := by
  refine h.2.2.1 (fun b => ln ((nc c : K) * b) ≤ ln b) ?_ (fun d b hd ih => ?_) b
  · rw [show (nc c : K) * 0 = 0 by grind]; omega
  · by_cases hw : d = 0 ∧ b = 0
    · rw [hw.1, hw.2, show (nc c : K) * ((nc (0) : K) + x * 0) = 0 by grind, h.2.2.2.2.1]; omega
    rw [h.2.2.2.2.2 _ _ hd hw, show (nc c : K) * ((nc d : K) + x * b) = (nc (c * d) : K) + x * ((nc c : K) * b) by rw [nc_mul]; grind]
    have := ma_lnle h (c * d) ((nc c : K) * b)
    omega
theorem ma_neg1 {p : Nat} {K : Type} [Lean.Grind.CommRing K] {x : K} {ln : K → Nat} (h : KX p K x ln) : (nc (p - 1) : K) = -1 := by
  have h2 := h.1.two
  have e : (nc (p - 1 + 1) : K) = 0 := by rw [Nat.sub_add_cancel (by omega)]; exact h.2.1
  rw [nc_add] at e
  grind
theorem ma_lnneg {p : Nat} {K : Type} [Lean.Grind.CommRing K] {x : K} {ln : K → Nat} (h : KX p K x ln) (a : K) : ln (-a) = ln a := by
  have h1 := ma_lnm h (p - 1) a
  have h2 := ma_lnm h (p - 1) (-a)
  rw [ma_neg1 h, show (-1 : K) * a = -a by grind] at h1
  rw [ma_neg1 h, show (-1 : K) * -a = a by grind] at h2
  omega
theorem ma_lnsub {p : Nat} {K : Type} [Lean.Grind.CommRing K] {x : K} {ln : K → Nat} (h : KX p K x ln) (a b : K) : ln (a - b) ≤ max (ln a) (ln b) := by
  have := ma_lnadd h a (-b)
  rw [ma_lnneg h, show a + -b = a - b by grind] at this
  exact this
theorem ma_lnaddlt {p : Nat} {K : Type} [Lean.Grind.CommRing K] {x : K} {ln : K → Nat} (h : KX p K x ln) {a b : K} (hl : ln a < ln b) : ln (a + b) = ln b := by
  have h1 := ma_lnadd h a b
  have h2 := ma_lnsub h (a + b) a
  rw [show a + b - a = b by grind] at h2
  omega
theorem ma_cinv {p : Nat} {K : Type} [Lean.Grind.CommRing K] {x : K} {ln : K → Nat} (h : KX p K x ln) {c : Nat} (hc : c % p ≠ 0) : ∃ u : Nat, (nc c : K) * (nc u : K) = 1 := by
  obtain ⟨u, hu, e⟩ := h.1.inv (c % p) hc (ma_lt h c)
  refine ⟨u, ?_⟩
  rw [← ma_cmod h c, ← nc_mul, ← ma_cmod h, e]
  grind
theorem ma_c0 {p : Nat} {K : Type} [Lean.Grind.CommRing K] {x : K} {ln : K → Nat} (h : KX p K x ln) {c : Nat} (e : (nc c : K) = 0) : c % p = 0 := by
  rw [← ma_cmod h] at e
  exact (h.2.2.2.1 (c % p) 0 (ma_lt h c) (by rw [e]; grind)).1
theorem ma_lncm {p : Nat} {K : Type} [Lean.Grind.CommRing K] {x : K} {ln : K → Nat} (h : KX p K x ln) {c : Nat} (hc : (nc c : K) ≠ 0) (b : K) : ln ((nc c : K) * b) = ln b := by
  obtain ⟨u, hu⟩ := ma_cinv h (c := c) (fun e => hc (by rw [← ma_cmod h, e]; grind))
  have h1 := ma_lnm h c b
  have h2 := ma_lnm h u ((nc c : K) * b)
  rw [show (nc u : K) * ((nc c : K) * b) = b by grind] at h2
  omega
theorem ma_lnmul {p : Nat} {K : Type} [Lean.Grind.CommRing K] {x : K} {ln : K → Nat} (h : KX p K x ln) (a b : K) (ha : a ≠ 0) (hb : b ≠ 0) : ln (a * b) + 1 = ln a + ln b := by
  revert ha
  refine h.2.2.1 (fun a => a ≠ 0 → ln (a * b) + 1 = ln a + ln b) (fun hn => absurd rfl hn) (fun c a hc ih hn => ?_) a
  have hb1 : ln b ≠ 0 := fun e => hb ((ma_ln0 h).1 e)
  by_cases hz : a = 0
  · subst hz
    have e0 : (nc c : K) + x * 0 = (nc c : K) := by grind
    rw [e0] at hn ⊢
    rw [ma_lncm h hn b]
    have := ma_lnc h c
    have : ln (nc c : K) ≠ 0 := fun e => hn ((ma_ln0 h).1 e)
    omega
  · have i := ih hz
    have ha1 : ln a ≠ 0 := fun e => hz ((ma_ln0 h).1 e)
    have hab : a * b ≠ 0 := fun e => by rw [e, h.2.2.2.2.1] at i; omega
    rw [ma_lnx h c hz, show ((nc c : K) + x * a) * b = (nc c : K) * b + ((nc (0) : K) + x * (a * b)) by grind]
    have h1 := ma_lnm h c b
    have h2 := ma_lnx h 0 hab
    rw [ma_lnaddlt h (by rw [h2]; omega), h2]
    omega
theorem ma_nz {p : Nat} {K : Type} [Lean.Grind.CommRing K] {x : K} {ln : K → Nat} (h : KX p K x ln) {a b : K} (e : a * b = 0) : a = 0 ∨ b = 0 := by
  by_cases ha : a = 0
  · exact .inl ha
  by_cases hb : b = 0
  · exact .inr hb
  have := ma_lnmul h a b ha hb
  have : ln a ≠ 0 := fun e => ha ((ma_ln0 h).1 e)
  have : ln b ≠ 0 := fun e => hb ((ma_ln0 h).1 e)
  rw [e, h.2.2.2.2.1] at *
  omega
theorem ma_cancel {p : Nat} {K : Type} [Lean.Grind.CommRing K] {x : K} {ln : K → Nat} (h : KX p K x ln) {a b c : K} (ha : a ≠ 0) (e : a * b = a * c) : b = c := by
  have e2 : a * (b - c) = 0 := by grind
  rcases ma_nz h e2 with h1 | h1
  · exact absurd h1 ha
  · grind
theorem ma_lead {p : Nat} {K : Type} [Lean.Grind.CommRing K] {x : K} {ln : K → Nat} (h : KX p K x ln) (s b : K) (e : ln s = ln b) (hb : b ≠ 0) : ∃ u : Nat, ln (s - (nc u : K) * b) < ln b := by
  revert b
  refine h.2.2.1 (fun s => ∀ b, ln s = ln b → b ≠ 0 → ∃ u : Nat, ln (s - (nc u : K) * b) < ln b) (fun b e hb => ?_) (fun c s hc ih b e hb => ?_) s
  · exact absurd ((ma_ln0 h).1 (e.symm.trans h.2.2.2.2.1)) hb
  · obtain ⟨d, b, hd, rfl⟩ := ma_cases h b
    by_cases hz : b = 0
    · subst hz
      have e0 : (nc d : K) + x * 0 = (nc d : K) := by grind
      rw [e0] at hb e ⊢
      have l1 := ma_lnc h d
      have hs : s = 0 := by
        apply Classical.byContradiction
        intro hs
        have := ma_lnx h c hs
        have : ln s ≠ 0 := fun e => hs ((ma_ln0 h).1 e)
        omega
      subst hs
      obtain ⟨u, hu⟩ := ma_cinv h (c := d) (fun e => hb (by rw [← ma_cmod h, e]; grind))
      refine ⟨c * u, ?_⟩
      rw [nc_mul, show ((nc c : K) + x * 0) - (nc c : K) * (nc u : K) * (nc d : K) = 0 by grind, h.2.2.2.2.1]
      have : ln (nc d : K) ≠ 0 := fun e => hb ((ma_ln0 h).1 e)
      omega
    · have l1 := ma_lnx h d hz
      have l0 : ln b ≠ 0 := fun e => hz ((ma_ln0 h).1 e)
      have hs : s ≠ 0 := by
        rintro rfl
        have := ma_lnc h c
        rw [show (nc c : K) + x * 0 = (nc c : K) by grind] at e
        omega
      have l2 := ma_lnx h c hs
      obtain ⟨u, hu⟩ := ih b (by omega) hz
      refine ⟨u, ?_⟩
      have e3 : ((nc c : K) + x * s) - (nc u : K) * ((nc d : K) + x * b) = (nc (c + (p - 1) * (u * d)) : K) + x * (s - (nc u : K) * b) := by
        rw [nc_add, nc_mul, nc_mul, ma_neg1 h]; grind
      rw [e3, l1]
      have := ma_lnle h (c + (p - 1) * (u * d)) (s - (nc u : K) * b)
      omega
theorem ma_div {p : Nat} {K : Type} [Lean.Grind.CommRing K] {x : K} {ln : K → Nat} (h : KX p K x ln) (a b : K) (hb : b ≠ 0) : ∃ q r, a = b * q + r ∧ ln r < ln b := by
  have l0 : ln b ≠ 0 := fun e => hb ((ma_ln0 h).1 e)
  refine h.2.2.1 (fun a => ∃ q r, a = b * q + r ∧ ln r < ln b) ⟨0, 0, by grind, by rw [h.2.2.2.2.1]; omega⟩ (fun c a hc ih => ?_) a
  obtain ⟨q, r, rfl, hr⟩ := ih
  have l1 := ma_lnle h c r
  by_cases hl : ln ((nc c : K) + x * r) < ln b
  · exact ⟨x * q, (nc c : K) + x * r, by grind, hl⟩
  · obtain ⟨u, hu⟩ := ma_lead h ((nc c : K) + x * r) b (by omega) hb
    exact ⟨x * q + nc u, ((nc c : K) + x * r) - (nc u : K) * b, by grind, hu⟩
theorem ma_dvle {p : Nat} {K : Type} [Lean.Grind.CommRing K] {x : K} {ln : K → Nat} (h : KX p K x ln) {a b : K} (hd : mdv a b) (hb : b ≠ 0) : ln a ≤ ln b := by
  obtain ⟨c, rfl⟩ := hd
  have hc : c ≠ 0 := fun e => hb (by rw [e]; grind)
  have ha : a ≠ 0 := fun e => hb (by rw [e]; grind)
  have := ma_lnmul h a c ha hc
  have : ln c ≠ 0 := fun e => hc ((ma_ln0 h).1 e)
  omega
theorem ma_dv0 {p : Nat} {K : Type} [Lean.Grind.CommRing K] {x : K} {ln : K → Nat} (h : KX p K x ln) {a b : K} (hd : mdv a b) (hl : ln b < ln a) : b = 0 := by
  apply Classical.byContradiction
  intro hb
  have := ma_dvle h hd hb
  omega
theorem ma_divu {p : Nat} {K : Type} [Lean.Grind.CommRing K] {x : K} {ln : K → Nat} (h : KX p K x ln) {b q r q' r' : K} (e : b * q + r = b * q' + r') (hr : ln r < ln b) (hr' : ln r' < ln b) : q = q' ∧ r = r' := by
  have hb : b ≠ 0 := by rintro rfl; rw [h.2.2.2.2.1] at hr; omega
  have e1 : r - r' = 0 := ma_dv0 h (a := b) ⟨q' - q, by grind⟩ (by have := ma_lnsub h r r'; omega)
  have e2 : r = r' := by grind
  exact ⟨ma_cancel h hb (by grind), e2⟩
/-- a divisor of least degree among the combinations: Bezout -/
theorem ma_bez {p : Nat} {K : Type} [Lean.Grind.CommRing K] {x : K} {ln : K → Nat} (h : KX p K x ln) (a b : K) : ∃ g s t, g = s * a + t * b ∧ mdv g a ∧ mdv g b := by
  have key : ∀ n, ∀ a b : K, ln b ≤ n → ∃ g s t, g = s * a + t * b ∧ mdv g a ∧ mdv g b := by
    intro n
    induction n with
    | zero =>
      intro a b hb
      have : b = 0 := (ma_ln0 h).1 (by omega)
      subst this
      exact ⟨a, 1, 0, by grind, mdv_r a, mdv_0 a⟩
    | succ n ih =>
      intro a b hb
      by_cases hz : b = 0
      · subst hz
        exact ⟨a, 1, 0, by grind, mdv_r a, mdv_0 a⟩
      · obtain ⟨q, r, e, hr⟩ := ma_div h a b hz
        obtain ⟨g, s, t, e2, h1, h2⟩ := ih b r (by omega)
        exact ⟨g, t, s - t * q, by grind, by rw [e]; exact mdv_a (mdv_mr q h1) h2, h1⟩
  exact key _ a b (Nat.le_refl _)
end MA
