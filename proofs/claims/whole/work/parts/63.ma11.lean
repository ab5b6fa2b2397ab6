/-! irreducible: the same steps on both sides -/
section MI
theorem frm_rsd {p : Nat} {K : Type} [Lean.Grind.CommRing K] {x : K} {ln : K → Nat} {co : K → Nat → Int} (h : KX p K x ln) (o : CO p K x ln co) {inv : Nat → Int} (hI : invP (p : Int) inv) {i a : K} (hi : ln i ≤ 24) (ha : ln a ≤ 25) (h2 : 2 ≤ ln a) : ∃ r, frm (p : Int) inv (co i) (co a) = co r ∧ rsd (p : Int) inv (co i) p (co a) = co r ∧ ln r < ln a ∧ mdv a (i ^ p - r) := by
  have hp := h.1.two
  have h0 : a ≠ 0 := by rintro rfl; rw [h.2.2.2.2.1] at h2; omega
  obtain ⟨r, e1, l1, d1⟩ := b_frm h o hI hi (m := a) (by omega) h0
  obtain ⟨s, e2, l2, d2⟩ := b_rsd h o hI (a := i) (by omega) ha h2 (n := p) (Nat.lt_of_le_of_lt hp.2 (by decide))
  have := ma_red h d1 d2 l1 l2
  subst this
  exact ⟨r, e1, e2, l1, d1⟩
theorem sub_x {pr : Int} {F : Nat → Int} {N : Nat} (hF : okp pr N F) : addS pr F (pr - 1) 0 xP = va_up F 1 ((F 1 - 1) % pr) := by
  funext n
  unfold addS xP va_up
  rw [if_neg (by omega), Nat.sub_zero]
  by_cases h1 : n = 1
  · subst h1
    rw [if_pos rfl, if_pos rfl, show F 1 + (pr - 1) * 1 = F 1 - 1 + pr * 1 by omega, Int.add_mul_emod_self_left]
  · have := hF.1 n
    rw [if_neg h1, if_neg h1, Int.mul_zero, Int.add_zero, Int.emod_eq_of_lt this.1 this.2]
theorem irr_eq {pr : Int} {inv : Nat → Int} (hl : 0 ≤ limF pr) (hI : invP pr inv) {A : Nat → Int} (hA : okp pr 25 A) : irrC pr inv A xP = irrR pr inv A := by
  obtain ⟨p, rfl, h6⟩ := p6_lim hl
  obtain ⟨K, _, x, ln, co, th, h, o, t⟩ := KX_ex h6
  obtain ⟨a, rfl, la⟩ := b_of h o hA
  have hp := h.1.two
  unfold irrC irrR
  by_cases hd : dg 300 (co a) < 1
  · rw [if_pos hd, if_pos hd]
  · rw [if_neg hd, if_neg hd]
    rw [b_dg h o (by omega)] at hd
    have key : ∀ (n d : Nat) (i : K), ln i ≤ 24 → cbc (p : Int) inv (co a) xP n d (co i) = irL (p : Int) inv (co a) n d (co i) := by
      intro n
      induction n with
      | zero => intro d i hi; rfl
      | succ n ih =>
        intro d i hi
        obtain ⟨r, e1, e2, l1, _⟩ := frm_rsd h o hI hi la (by omega)
        unfold cbc irL
        rw [Int.toNat_natCast, e1, e2, sub_x (b_ok h o (a := r) (Nat.le_refl _)), ih (d + 1) r (by omega)]
    rw [← b_x h o]
    have := key 13 1 x (by rw [(ma_lx h).1]; omega)
    rw [← b_x h o] at this
    exact this
end MI
