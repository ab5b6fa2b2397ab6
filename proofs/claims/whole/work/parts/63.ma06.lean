/-! the pure functions as operations of the ring -/
section MD
theorem co_0 {p : Nat} {K : Type} [Lean.Grind.CommRing K] {x : K} {ln : K → Nat} {co : K → Nat → Int} (h : KX p K x ln) (o : CO p K x ln co) (n : Nat) : co 0 n = 0 := by
  have := o.2.2.2.2.2.2.1 0 n
  rw [show (nc 0 : K) = 0 by grind] at this
  rw [this]; split <;> simp
theorem co_rg {p : Nat} {K : Type} [Lean.Grind.CommRing K] {x : K} {ln : K → Nat} {co : K → Nat → Int} (h : KX p K x ln) (o : CO p K x ln co) (a : K) (n : Nat) : 0 ≤ co a n ∧ co a n < p := (o.2.1 a).1 n
theorem co_mod {p : Nat} {K : Type} [Lean.Grind.CommRing K] {x : K} {ln : K → Nat} {co : K → Nat → Int} (h : KX p K x ln) (o : CO p K x ln co) (a : K) (n : Nat) : co a n % p = co a n := (o.2.1 a).e n
theorem co_ext {p : Nat} {K : Type} [Lean.Grind.CommRing K] {x : K} {ln : K → Nat} {co : K → Nat → Int} (h : KX p K x ln) (o : CO p K x ln co) {a b : K} (e : co a = co b) : a = b := o.1 a b (fun n => by rw [e])
theorem co_ln {p : Nat} {K : Type} [Lean.Grind.CommRing K] {x : K} {ln : K → Nat} {co : K → Nat → Int} (h : KX p K x ln) (o : CO p K x ln co) {a : K} {n : Nat} (e : ∀ m, n ≤ m → co a m = 0) : ln a ≤ n := by
  apply Classical.byContradiction
  intro hn
  exact (o.2.2.2.2.2.2.2 a).2 (by omega) (e _ (by omega))
theorem co_z {p : Nat} {K : Type} [Lean.Grind.CommRing K] {x : K} {ln : K → Nat} {co : K → Nat → Int} (h : KX p K x ln) (o : CO p K x ln co) {a : K} {n : Nat} (e : ln a ≤ n) : co a n = 0 := (o.2.2.2.2.2.2.2 a).1 n e
theorem co_top {p : Nat} {K : Type} [Lean.Grind.CommRing K] {x : K} {ln : K → Nat} {co : K → Nat → Int} (h : KX p K x ln) (o : CO p K x ln co) {a : K} (ha : a ≠ 0) : co a (ln a - 1) ≠ 0 := (o.2.2.2.2.2.2.2 a).2 (fun e => ha ((ma_ln0 h).1 e))
theorem b_dg {p : Nat} {K : Type} [Lean.Grind.CommRing K] {x : K} {ln : K → Nat} {co : K → Nat → Int} (h : KX p K x ln) (o : CO p K x ln co) {a : K} (ha : ln a ≤ 300) : dg 300 (co a) = (ln a : Int) - 1 := by
  refine dg_eq (by omega) (by omega) (fun y hy => ?_) (fun y hy _ => co_z h o (by omega))
  rw [show y = ln a - 1 by omega]
  exact (o.2.2.2.2.2.2.2 a).2 (by omega)
theorem b_ok {p : Nat} {K : Type} [Lean.Grind.CommRing K] {x : K} {ln : K → Nat} {co : K → Nat → Int} (h : KX p K x ln) (o : CO p K x ln co) {a : K} {n : Nat} (ha : ln a ≤ n) : okp (p : Int) n (co a) := ⟨fun y => co_rg h o a y, fun y hy => co_z h o (by omega)⟩
theorem b_of {p : Nat} {K : Type} [Lean.Grind.CommRing K] {x : K} {ln : K → Nat} {co : K → Nat → Int} (h : KX p K x ln) (o : CO p K x ln co) {F : Nat → Int} {n : Nat} (hF : okp (p : Int) n F) : ∃ a, co a = F ∧ ln a ≤ n := by
  obtain ⟨a, ha⟩ := o.2.2.1 F ⟨hF.1, n, hF.2⟩
  exact ⟨a, ha, co_ln h o (fun m hm => by rw [ha]; exact hF.2 m hm)⟩
theorem co_xt {p : Nat} {K : Type} [Lean.Grind.CommRing K] {x : K} {ln : K → Nat} {co : K → Nat → Int} (h : KX p K x ln) (o : CO p K x ln co) (t : Nat) (b : K) (n : Nat) : co (x ^ t * b) n = if n < t then 0 else co b (n - t) := by
  induction t generalizing n with
  | zero => rw [Lean.Grind.Semiring.pow_zero, show (1 : K) * b = b by grind]; simp
  | succ t ih =>
    rw [show x ^ (t + 1) * b = x * (x ^ t * b) by rw [Lean.Grind.Semiring.pow_succ]; grind]
    cases n with
    | zero => rw [(o.2.2.2.2.2.1 _).1]; simp
    | succ n =>
      rw [(o.2.2.2.2.2.1 _).2, ih]
      by_cases e : n < t
      · rw [if_pos e, if_pos (by omega)]
      · rw [if_neg e, if_neg (by omega), Nat.add_sub_add_right]
theorem b_addS {p : Nat} {K : Type} [Lean.Grind.CommRing K] {x : K} {ln : K → Nat} {co : K → Nat → Int} (h : KX p K x ln) (o : CO p K x ln co) (a b : K) (c t : Nat) : addS (p : Int) (co a) (c : Int) t (co b) = co (a + nc c * (x ^ t * b)) := by
  funext n
  rw [o.2.2.2.1, o.2.2.2.2.1, co_xt h o]
  unfold addS
  by_cases e : n < t
  · rw [if_pos e, if_pos e]; simp [co_mod h o]
  · rw [if_neg e, if_neg e, Int.add_emod_emod]
def smK {K : Type} [Lean.Grind.CommRing K] (co : K → Nat → Int) (x a : K) : Nat → K
  | 0 => 0
  | n + 1 => smK co x a n + nc (co a n).toNat * x ^ n
theorem smK_s {p : Nat} {K : Type} [Lean.Grind.CommRing K] {x : K} {ln : K → Nat} {co : K → Nat → Int} (h : KX p K x ln) (o : CO p K x ln co) (c : Nat) (b : K) (hc : c < p) (n : Nat) : smK co x (nc c + x * b) (n + 1) = nc c + x * smK co x b n := by
  have e0 : co (nc c + x * b) 0 = c := by
    rw [o.2.2.2.1, o.2.2.2.2.2.2.1, (o.2.2.2.2.2.1 _).1]
    simp
    rw [Int.emod_eq_of_lt (by omega) (by omega)]
  have es : ∀ n, co (nc c + x * b) (n + 1) = co b n := fun n => by
    rw [o.2.2.2.1, o.2.2.2.2.2.2.1, (o.2.2.2.2.2.1 _).2]
    simp [co_mod h o]
  induction n with
  | zero =>
    show 0 + nc (co (nc c + x * b) 0).toNat * x ^ 0 = nc c + x * 0
    rw [e0, Lean.Grind.Semiring.pow_zero]
    simp only [Int.toNat_natCast]
    grind
  | succ n ih =>
    show smK co x (nc c + x * b) (n + 1) + nc (co (nc c + x * b) (n + 1)).toNat * x ^ (n + 1) = nc c + x * (smK co x b n + nc (co b n).toNat * x ^ n)
    rw [ih, es, Lean.Grind.Semiring.pow_succ]
    grind
theorem smK_e {p : Nat} {K : Type} [Lean.Grind.CommRing K] {x : K} {ln : K → Nat} {co : K → Nat → Int} (h : KX p K x ln) (o : CO p K x ln co) (a : K) : ∀ n, ln a ≤ n → smK co x a n = a := by
  refine h.2.2.1 (fun a => ∀ n, ln a ≤ n → smK co x a n = a) (fun n _ => ?_) (fun c b hc ih n hn => ?_) a
  · induction n with
    | zero => rfl
    | succ n ih => show smK co x 0 n + nc (co 0 n).toNat * x ^ n = 0; rw [ih (by rw [h.2.2.2.2.1]; omega), co_0 h o]; simp only [Int.toNat_zero]; grind
  · by_cases hz : c = 0 ∧ b = 0
    · obtain ⟨rfl, rfl⟩ := hz
      have e0 : (nc 0 : K) + x * 0 = 0 := by grind
      rw [e0]
      clear hn
      induction n with
      | zero => rfl
      | succ n ih => show smK co x 0 n + nc (co 0 n).toNat * x ^ n = 0; rw [ih, co_0 h o]; simp only [Int.toNat_zero]; grind
    · rw [h.2.2.2.2.2 c b hc hz] at hn
      rw [show n = (n - 1) + 1 by omega, smK_s h o c b hc, ih (n - 1) (by omega)]
theorem b_addP {p : Nat} {K : Type} [Lean.Grind.CommRing K] {x : K} {ln : K → Nat} {co : K → Nat → Int} (h : KX p K x ln) (o : CO p K x ln co) (a b s : K) (c n : Nat) : addP (p : Int) (co a) (c : Int) (co s) (co b) n = co (a + nc c * (smK co x s n * b)) := by
  induction n with
  | zero => show co a = _; congr 1; show a = a + nc c * (0 * b); grind
  | succ n ih =>
    show addS (p : Int) (addP (p : Int) (co a) (c : Int) (co s) (co b) n) ((c : Int) * co s n) n (co b) = _
    have hr := co_rg h o s n
    rw [ih, show (c : Int) * co s n = ((c * (co s n).toNat : Nat) : Int) by rw [Int.natCast_mul, Int.toNat_of_nonneg hr.1], b_addS h o]
    congr 1
    show _ = a + nc c * ((smK co x s n + nc (co s n).toNat * x ^ n) * b)
    rw [nc_mul]
    grind
theorem co_zf {p : Nat} {K : Type} [Lean.Grind.CommRing K] {x : K} {ln : K → Nat} {co : K → Nat → Int} (h : KX p K x ln) (o : CO p K x ln co) : co 0 = fun _ => 0 := funext (fun n => co_0 h o n)
theorem b_prd {p : Nat} {K : Type} [Lean.Grind.CommRing K] {x : K} {ln : K → Nat} {co : K → Nat → Int} (h : KX p K x ln) (o : CO p K x ln co) (a b : K) (ha : ln a ≤ 300) : prd (p : Int) (co a) (co b) = co (a * b) := by
  unfold prd
  rw [b_dg h o ha, show ((ln a : Int) - 1 + 1).toNat = ln a by omega, ← co_zf h o, show (1 : Int) = ((1 : Nat) : Int) from rfl, b_addP h o, smK_e h o a _ (Nat.le_refl _)]
  congr 1
  grind
theorem b_one {p : Nat} {K : Type} [Lean.Grind.CommRing K] {x : K} {ln : K → Nat} {co : K → Nat → Int} (h : KX p K x ln) (o : CO p K x ln co) : co 1 = oneP := by
  funext n
  have h2 := h.1.two
  have := o.2.2.2.2.2.2.1 1 n
  rw [show (nc 1 : K) = 1 by grind] at this
  rw [this]
  unfold oneP
  split
  · exact Int.emod_eq_of_lt (by omega) (by omega)
  · rfl
theorem b_x {p : Nat} {K : Type} [Lean.Grind.CommRing K] {x : K} {ln : K → Nat} {co : K → Nat → Int} (h : KX p K x ln) (o : CO p K x ln co) : co x = xP := by
  funext n
  have e := co_xt h o 1 1 n
  rw [ma_pow1, show x * 1 = x by grind, b_one h o] at e
  rw [e]
  unfold xP oneP
  by_cases e1 : n = 1
  · subst e1; simp
  · rw [if_neg e1]
    split
    · rfl
    · rw [if_neg (by omega)]
theorem ma_lx {p : Nat} {K : Type} [Lean.Grind.CommRing K] {x : K} {ln : K → Nat} (h : KX p K x ln) : ln x = 2 ∧ x ≠ 0 := by
  have a1 := ma_lnx h 0 (ma_1 h).2
  rw [(ma_1 h).1, show (nc 0 : K) + x * 1 = x by grind] at a1
  exact ⟨a1, fun e => by rw [e, h.2.2.2.2.1] at a1; omega⟩
theorem ma_lxt {p : Nat} {K : Type} [Lean.Grind.CommRing K] {x : K} {ln : K → Nat} (h : KX p K x ln) (t : Nat) (b : K) (hb : b ≠ 0) : ln (x ^ t * b) = ln b + t ∧ x ^ t * b ≠ 0 := by
  induction t with
  | zero => rw [Lean.Grind.Semiring.pow_zero, show (1 : K) * b = b by grind]; exact ⟨rfl, hb⟩
  | succ t ih =>
    have a1 := ma_lnx h 0 ih.2
    rw [show (nc 0 : K) + x * (x ^ t * b) = x ^ (t + 1) * b by rw [Lean.Grind.Semiring.pow_succ]; grind] at a1
    refine ⟨by omega, fun e => ?_⟩
    rw [e, h.2.2.2.2.1] at a1
    omega
/-- division -/
theorem b_divL {p : Nat} {K : Type} [Lean.Grind.CommRing K] {x : K} {ln : K → Nat} {co : K → Nat → Int} (h : KX p K x ln) (o : CO p K x ln co) {inv : Nat → Int} (hI : invP (p : Int) inv) {b : K} (iv : Int) (e : Nat) : ∀ (n : Nat) (r q : K), (∀ y, y < n → co q y = 0) → ∃ r' q', divL (p : Int) iv (co b) e n (co r, co q) = (co r', co q') ∧ b * q + r = b * q' + r'
  | 0, r, q, _ => ⟨r, q, rfl, rfl⟩
  | n + 1, r, q, hz => by
    have h2 := h.1.two
    show ∃ r' q', divL (p : Int) iv (co b) e n (divS (p : Int) iv (co b) e (co r, co q) n) = (co r', co q') ∧ _
    by_cases hd : co r (n + e) * iv % (p : Int) = 0
    · rw [show divS (p : Int) iv (co b) e (co r, co q) n = (co r, co q) from if_pos hd]
      exact b_divL h o hI iv e n r q (fun y hy => hz y (by omega))
    · have hr : 0 ≤ co r (n + e) * iv % (p : Int) ∧ co r (n + e) * iv % (p : Int) < p := ⟨Int.emod_nonneg _ (by omega), Int.emod_lt_of_pos _ (by omega)⟩
      rw [show divS (p : Int) iv (co b) e (co r, co q) n = (addS (p : Int) (co r) ((p : Int) - co r (n + e) * iv % (p : Int)) n (co b), va_up (co q) n (co r (n + e) * iv % (p : Int))) from if_neg hd]
      generalize hdd : co r (n + e) * iv % (p : Int) = d at hd hr ⊢
      have ed : d = ((d.toNat : Nat) : Int) := (Int.toNat_of_nonneg hr.1).symm
      have e1 : addS (p : Int) (co r) ((p : Int) - d) n (co b) = co (r + nc (p - d.toNat) * (x ^ n * b)) := by
        rw [← b_addS h o]
        congr 1
        omega
      have e2 : va_up (co q) n d = co (q + nc d.toNat * (x ^ n * 1)) := by
        funext y
        rw [o.2.2.2.1, o.2.2.2.2.1, co_xt h o, b_one h o]
        by_cases hy : y = n
        · subst hy
          rw [va_up_self, hz y (by omega)]
          simp [oneP]
          rw [show max d 0 = d by omega, Int.emod_eq_of_lt hr.1 hr.2]
        · rw [va_up_ne _ _ hy]
          have : (if y < n then (0 : Int) else oneP (y - n)) = 0 := by
            split
            · rfl
            · unfold oneP; rw [if_neg (by omega)]
          rw [this]
          simp [co_mod h o]
      rw [e1, e2]
      obtain ⟨r', q', e3, e4⟩ := b_divL h o hI iv e n (r + nc (p - d.toNat) * (x ^ n * b)) (q + nc d.toNat * (x ^ n * 1)) (fun y hy => by
        rw [← e2, va_up_ne _ _ (by omega)]; exact hz y (by omega))
      refine ⟨r', q', e3, ?_⟩
      rw [← e4]
      have e5 : (nc (p - d.toNat) : K) + nc d.toNat = 0 := by rw [← nc_add, Nat.sub_add_cancel (by omega)]; exact h.2.1
      have e6 : (nc (p - d.toNat) : K) = - nc d.toNat := by grind
      rw [e6]
      grind
theorem b_dvm {p : Nat} {K : Type} [Lean.Grind.CommRing K] {x : K} {ln : K → Nat} {co : K → Nat → Int} (h : KX p K x ln) (o : CO p K x ln co) {inv : Nat → Int} (hI : invP (p : Int) inv) {a b : K} (ha : ln a ≤ 300) (hb : ln b ≤ 300) (h0 : b ≠ 0) : ∃ q r, dvm (p : Int) inv (co a) (co b) = (co r, co q) ∧ a = b * q + r ∧ ln r < ln b := by
  have l0 : ln b ≠ 0 := fun e => h0 ((ma_ln0 h).1 e)
  have e1 := b_dg h o hb
  have hd : ¬ dg 300 (co b) < 0 := by rw [e1]; omega
  obtain ⟨r, q, e2, e3⟩ := b_divL h o hI (b := b) (inv (co b (dg 300 (co b)).toNat).toNat) (dg 300 (co b)).toNat (dg 300 (co a) - dg 300 (co b) + 1).toNat a 0 (fun y _ => co_0 h o y)
  have e4 : dvm (p : Int) inv (co a) (co b) = (co r, co q) := by
    unfold dvm
    rw [if_neg hd, ← co_zf h o]
    exact e2
  have e5 := dvm_ok2 hI (b_ok h o ha) (b_ok h o hb) (Nat.le_refl _) (Nat.le_refl _) (by omega) (M := ln b - 1) (by rw [e1]; omega)
  rw [e4] at e5
  refine ⟨q, r, e4, by rw [← e3]; grind, ?_⟩
  have := co_ln h o (a := r) (fun m hm => e5.2 m hm)
  omega
def mnc {K : Type} [Lean.Grind.CommRing K] (ln : K → Nat) (co : K → Nat → Int) (a : K) : Prop := a ≠ 0 ∧ co a (ln a - 1) = 1
theorem b_mon {p : Nat} {K : Type} [Lean.Grind.CommRing K] {x : K} {ln : K → Nat} {co : K → Nat → Int} (h : KX p K x ln) (o : CO p K x ln co) {inv : Nat → Int} (hI : invP (p : Int) inv) {a : K} (ha : ln a ≤ 300) (h0 : a ≠ 0) : ∃ u : Nat, (nc u : K) ≠ 0 ∧ mon (p : Int) inv (co a) = co (nc u * a) ∧ mnc ln co (nc u * a) := by
  have h2 := h.1.two
  have l0 : ln a ≠ 0 := fun e => h0 ((ma_ln0 h).1 e)
  have e1 := b_dg h o ha
  have et : (dg 300 (co a)).toNat = ln a - 1 := by omega
  have hl := co_top h o h0
  have hr := co_rg h o a (ln a - 1)
  have hv := hI.inv (v := co a (ln a - 1)) ⟨by omega, hr.2⟩
  have eu : inv (co a (ln a - 1)).toNat = (((inv (co a (ln a - 1)).toNat).toNat : Nat) : Int) := (Int.toNat_of_nonneg (by omega)).symm
  generalize hw : inv (co a (ln a - 1)).toNat = w at *
  have hu : (nc w.toNat : K) ≠ 0 := fun e => by
    have := ma_c0 h e
    rw [Nat.mod_eq_of_lt (by omega)] at this
    omega
  have em : mon (p : Int) inv (co a) = co (nc w.toNat * a) := by
    unfold mon
    rw [if_neg (by omega)]
    funext y
    rw [o.2.2.2.2.1, et]
    show co a y * inv (co a (ln a - 1)).toNat % (p : Int) = _
    rw [Int.mul_comm]
    rw [hw, ← eu]
  refine ⟨w.toNat, hu, em, fun e => ?_, ?_⟩
  · rcases ma_nz h e with e | e
    · exact hu e
    · exact h0 e
  · rw [ma_lncm h hu, o.2.2.2.2.1, ← eu, Int.mul_comm]
    exact hv.2
end MD
