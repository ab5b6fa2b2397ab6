/-! inverses: Euclid's against the linear equations -/
section MH
theorem b_invL {p : Nat} {K : Type} [Lean.Grind.CommRing K] {x : K} {ln : K → Nat} {co : K → Nat → Int} (h : KX p K x ln) (o : CO p K x ln co) {inv : Nat → Int} (hI : invP (p : Int) inv) {m a : K} (hm : ln m ≤ 25) : ∀ (n : Nat) (u l ut lt : K), ln l < ln u → 2 ≤ ln u → ln u ≤ 25 → ln l ≤ n + 1 → ln lt + ln u ≤ ln m + 1 → ln ut + ln l ≤ ln m + 1 → mdv m (ut * a - u) → mdv m (lt * a - l) → (∀ d, mdv d u → mdv d l → mdv d m ∧ mdv d a) → ∃ l' lt', invL (p : Int) inv n (co u) (co l) (co ut) (co lt) = (co l', co lt') ∧ ln l' ≤ 1 ∧ ln lt' < ln m ∧ mdv m (lt' * a - l') ∧ (l' = 0 → ∃ d, 2 ≤ ln d ∧ mdv d m ∧ mdv d a)
  | 0, u, l, ut, lt, h1, h2, h3, h4, h5, h6, h7, h8, h9 => by
    refine ⟨l, lt, rfl, by omega, by omega, h8, fun e => ?_⟩
    subst e
    exact ⟨u, h2, h9 u (mdv_r u) (mdv_0 u)⟩
  | n + 1, u, l, ut, lt, h1, h2, h3, h4, h5, h6, h7, h8, h9 => by
    have hp := h.1.two
    by_cases hl : ln l ≤ 1
    · refine ⟨l, lt, ?_, hl, by omega, h8, fun e => ?_⟩
      · unfold invL
        rw [if_pos (by rw [b_dg h o (by omega)]; omega)]
      · subst e
        exact ⟨u, h2, h9 u (mdv_r u) (mdv_0 u)⟩
    · have hl0 : l ≠ 0 := by rintro rfl; rw [h.2.2.2.2.1] at hl; omega
      obtain ⟨q, r, e1, e2, lr⟩ := b_dvm h o hI (a := u) (b := l) (by omega) (by omega) hl0
      have hq0 : q ≠ 0 := by
        rintro rfl
        have : u = r := by rw [e2]; grind
        rw [this] at h1
        omega
      have lq := ma_lnmul h l q hl0 hq0
      have elq : ln (l * q) = ln u := by
        have e3 : r + l * q = u := by rw [e2]; grind
        have lq0 : ln q ≠ 0 := fun e => hq0 ((ma_ln0 h).1 e)
        have := ma_lnaddlt h (a := r) (b := l * q) (by omega)
        rw [e3] at this
        exact this.symm
      have e4 : addP (p : Int) (co ut) ((p : Int) - 1) (co q) (co lt) (dg 300 (co q) + 1).toNat = co (ut - q * lt) := by
        rw [b_dg h o (a := q) (by omega), show ((ln q : Int) - 1 + 1).toNat = ln q by omega, show (p : Int) - 1 = ((p - 1 : Nat) : Int) by omega, b_addP h o, smK_e h o q _ (Nat.le_refl _), ma_neg1 h]
        congr 1
        grind
      have l5 := ma_lnmulle h q lt
      have l6 := ma_lnsub h ut (q * lt)
      obtain ⟨l', lt', g1, g2⟩ := b_invL h o hI hm n l r lt (ut - q * lt) lr (by omega) (by omega) (by omega) (by omega) (by omega) h8 (mdv_e (mdv_s h7 (mdv_ml q h8)) (by rw [e2]; grind)) (fun d d1 d2 => h9 d (by rw [e2]; exact mdv_a (mdv_mr q d1) d2) d1)
      refine ⟨l', lt', ?_, g2⟩
      unfold invL
      rw [if_neg (by rw [b_dg h o (a := l) (by omega)]; omega), e1, e4]
      exact g1
theorem b_invZ {p : Nat} {K : Type} [Lean.Grind.CommRing K] {x : K} {ln : K → Nat} {co : K → Nat → Int} (h : KX p K x ln) (o : CO p K x ln co) {inv : Nat → Int} (hI : invP (p : Int) inv) {m a : K} (hm : ln m ≤ 25) (h2 : 2 ≤ ln m) (ha : ln a ≤ 25) : ∃ l lt, invZ (p : Int) inv (co a) (co m) = (co l, co lt) ∧ ln l ≤ 1 ∧ ln lt < ln m ∧ mdv m (lt * a - l) ∧ (l = 0 → ∃ d, 2 ≤ ln d ∧ mdv d m ∧ mdv d a) := by
  have h0 : m ≠ 0 := by rintro rfl; rw [h.2.2.2.2.1] at h2; omega
  have l1 := (ma_1 h).1
  obtain ⟨q, r, e1, e2, lr⟩ := b_dvm h o hI (a := a) (b := m) (by omega) (by omega) h0
  obtain ⟨l, lt, g1, g2⟩ := b_invL h o hI (a := a) hm 26 m r 0 1 lr h2 hm (by omega) (by omega) (by rw [h.2.2.2.2.1]; omega) ⟨-1, by grind⟩ ⟨q, by grind⟩ (fun d d1 d2 => ⟨d1, by rw [e2]; exact mdv_a (mdv_mr q d1) d2⟩)
  refine ⟨l, lt, ?_, g2⟩
  unfold invZ
  rw [e1, ← co_zf h o, ← b_one h o]
  exact g1
def smI (f : Nat → Int) : Nat → Int
  | 0 => 0
  | n + 1 => smI f n + f n
theorem smI_congr {f g : Nat → Int} : ∀ n, (∀ j, j < n → f j = g j) → smI f n = smI g n
  | 0, _ => rfl
  | n + 1, e => by show smI f n + f n = smI g n + g n; rw [smI_congr n (fun j hj => e j (by omega)), e n (by omega)]
theorem smI_0 {f : Nat → Int} : ∀ n, (∀ j, j < n → f j = 0) → smI f n = 0
  | 0, _ => rfl
  | n + 1, e => by show smI f n + f n = 0; rw [smI_0 n (fun j hj => e j (by omega)), e n (by omega)]; rfl
theorem smI_one {f : Nat → Int} {i : Nat} : ∀ n, i < n → (∀ j, j < n → j ≠ i → f j = 0) → smI f n = f i
  | 0, hi, _ => by omega
  | n + 1, hi, e => by
    show smI f n + f n = f i
    by_cases hn : i = n
    · subst hn
      rw [smI_0 i (fun j hj => e j (by omega) (by omega)), Int.zero_add]
    · rw [smI_one n (by omega) (fun j hj hne => e j (by omega) hne), e n (by omega) (fun e => hn e.symm), Int.add_zero]
theorem smI_two {f : Nat → Int} {i k : Nat} (hne : i ≠ k) : ∀ n, i < n → k < n → (∀ j, j < n → j ≠ i → j ≠ k → f j = 0) → smI f n = f i + f k
  | 0, hi, _, _ => by omega
  | n + 1, hi, hk, e => by
    show smI f n + f n = f i + f k
    by_cases hn : i = n
    · subst hn
      rw [smI_one i (i := k) (by omega) (fun j hj hne => e j (by omega) (by omega) hne)]; omega
    by_cases hn2 : k = n
    · subst hn2
      rw [smI_one k (i := i) (by omega) (fun j hj hne => e j (by omega) hne (by omega))]
    · rw [smI_two hne n (by omega) (by omega) (fun j hj h1 h2 => e j (by omega) h1 h2), e n (by omega) (by omega) (by omega), Int.add_zero]
theorem smI_mod {q : Int} {f g : Nat → Int} : ∀ n, (∀ j, j < n → f j % q = g j % q) → smI f n % q = smI g n % q
  | 0, _ => rfl
  | n + 1, e => by show (smI f n + f n) % q = (smI g n + g n) % q; rw [Int.add_emod, smI_mod n (fun j hj => e j (by omega)), e n (by omega), ← Int.add_emod]
theorem smI_lin (c : Int) (f g : Nat → Int) : ∀ n, smI (fun j => f j - c * g j) n = smI f n - c * smI g n
  | 0 => by show (0 : Int) = 0 - c * 0; omega
  | n + 1 => by show smI (fun j => f j - c * g j) n + (f n - c * g n) = (smI f n + f n) - c * (smI g n + g n); rw [smI_lin c f g n]; grind
theorem smI_mul (c : Int) (f : Nat → Int) : ∀ n, smI (fun j => c * f j) n = c * smI f n
  | 0 => by show (0 : Int) = c * 0; omega
  | n + 1 => by show smI (fun j => c * f j) n + c * f n = c * (smI f n + f n); rw [smI_mul c f n]; grind
def kerE (q : Int) (n : Nat) (E : Nat → Nat → Int) (z : Nat → Int) : Prop := ∀ i, i < n → smI (fun j => E i j * z j) (n + 1) % q = 0
theorem ker_elm {q : Int} {n c : Nat} {E : Nat → Nat → Int} {z : Nat → Int} (hc : c < n) (hk : kerE q n (elmR q c E) z) : kerE q n E z := by
  have h1 := hk c hc
  unfold elmR at h1
  rw [smI_congr (g := fun j => E c j * z j) _ (fun j _ => by rw [if_pos rfl])] at h1
  intro i hi
  by_cases hic : i = c
  · rw [hic]; exact h1
  · have h2 := hk i hi
    unfold elmR at h2
    rw [smI_mod (g := fun j => E i j * z j - E i c * (E c j * z j)) _ (fun j _ => by
      rw [if_neg hic, Int.mul_emod, Int.emod_emod_of_dvd _ (Int.dvd_refl _), ← Int.mul_emod]; congr 1; grind), smI_lin, Int.sub_emod, Int.mul_emod, h1] at h2
    simpa using h2
theorem ker_sca {q : Int} {inv : Nat → Int} {n c : Nat} {E : Nat → Nat → Int} {z : Nat → Int} (hiv : E c c * inv (E c c).toNat % q = 1) (hk : kerE q n (scaR q inv c E) z) : kerE q n E z := by
  intro i hi
  by_cases hic : i = c
  · subst hic
    have h2 := hk i hi
    unfold scaR at h2
    rw [smI_mod (g := fun j => inv (E i i).toNat * (E i j * z j)) _ (fun j _ => by
      rw [va_up_self, Int.mul_emod, Int.emod_emod_of_dvd _ (Int.dvd_refl _), ← Int.mul_emod]; congr 1; grind), smI_mul] at h2
    generalize smI (fun j => E i j * z j) (n + 1) = t at h2 ⊢
    have e : (E i i * (inv (E i i).toNat * t)) % q = t % q := by
      rw [← Int.mul_assoc, Int.mul_emod, hiv, Int.one_mul, Int.emod_emod_of_dvd _ (Int.dvd_refl _)]
    rw [← e, Int.mul_emod, h2]
    simp
  · have h2 := hk i hi
    unfold scaR at h2
    rw [smI_congr (g := fun j => E i j * z j) _ (fun j _ => by rw [va_up_ne _ _ hic])] at h2
    exact h2
theorem ker_swp {q : Int} {n r c : Nat} {E : Nat → Nat → Int} {z : Nat → Int} (hr : r < n) (hc : c < n) (hk : kerE q n (swpR E r c) z) : kerE q n E z := by
  intro i hi
  unfold swpR at hk
  by_cases h1 : i = c
  · by_cases h2 : r = c
    · have := hk c hc
      rw [smI_congr (g := fun j => E i j * z j) _ (fun j _ => by rw [va_up_self, h2, h1])] at this
      exact this
    · have := hk r hr
      rw [smI_congr (g := fun j => E i j * z j) _ (fun j _ => by rw [va_up_ne _ _ h2, va_up_self, h1])] at this
      exact this
  · by_cases h2 : i = r
    · have := hk c hc
      rw [smI_congr (g := fun j => E i j * z j) _ (fun j _ => by rw [va_up_self, h2])] at this
      exact this
    · have := hk i hi
      rw [smI_congr (g := fun j => E i j * z j) _ (fun j _ => by rw [va_up_ne _ _ h1, va_up_ne _ _ h2])] at this
      exact this
theorem pivR_no (E : Nat → Nat → Int) (c : Nat) : ∀ (k r : Nat), pivR E c k r = r + k → ∀ i, r ≤ i → i < r + k → E i c = 0
  | 0, r, _, i, h1, h2 => by omega
  | k + 1, r, e, i, h1, h2 => by
    unfold pivR at e
    by_cases hz : E r c = 0
    · rw [if_pos hz] at e
      by_cases hi : i = r
      · rw [hi, hz]
      · exact pivR_no E c k (r + 1) (by omega) i (by omega) (by omega)
    · rw [if_neg hz] at e
      omega
def unitC (n c : Nat) (E : Nat → Nat → Int) : Prop := ∀ i j, i < n → j < c → E i j = if i = j then 1 else 0
theorem gauS_ker {q : Int} {inv : Nat → Int} (hI : invP q inv) {n c : Nat} {E : Nat → Nat → Int} (hE : okE q n E) (hc : c < n) (hp : pivR E c (n - c) c ≠ n) (hu : unitC n c E) : unitC n (c + 1) (gauS q inv n c E) ∧ ∀ z, kerE q n (gauS q inv n c E) z → kerE q n E z := by
  have hs := pivR_sp E c (n - c) c
  unfold gauS
  generalize hrr : pivR E c (n - c) c = r at hp hs
  have hr : r < n := by omega
  have hrc : E r c ≠ 0 := hs.2.2 (by omega)
  have hE1 := hE r c hr (by omega)
  obtain ⟨S, eS⟩ : ∃ S, S = swpR E r c := ⟨_, rfl⟩
  have Sc : S c = E r := by rw [eS]; unfold swpR; rw [va_up_self]
  have Su : ∀ i j, i < n → j < c → S i j = if i = j then 1 else 0 := by
    intro i j hi hj
    by_cases h1 : i = c
    · rw [h1, Sc, hu r j hr hj, if_neg (by omega), if_neg (by omega)]
    · by_cases h2 : i = r
      · have : S i = E c := by rw [eS]; unfold swpR; rw [va_up_ne _ _ h1, h2, va_up_self]
        rw [this, hu c j hc hj, if_neg (by omega), if_neg (by omega)]
      · have : S i = E i := by rw [eS]; unfold swpR; rw [va_up_ne _ _ h1, va_up_ne _ _ h2]
        rw [this, hu i j hi hj]
  have hiv : S c c * inv (S c c).toNat % q = 1 := by
    rw [Sc]
    exact (hI.inv (v := E r c) ⟨by omega, hE1.2⟩).2
  rw [← eS]
  refine ⟨?_, fun z hz => ker_swp hr hc (eS ▸ ker_sca hiv (ker_elm hc hz))⟩
  obtain ⟨T, eT⟩ : ∃ T, T = scaR q inv c S := ⟨_, rfl⟩
  have Tc : ∀ k, T c k = S c k * inv (S c c).toNat % q := fun k => by rw [eT]; unfold scaR; rw [va_up_self]
  have Tn : ∀ i, i ≠ c → T i = S i := fun i hi => by rw [eT]; unfold scaR; rw [va_up_ne _ _ hi]
  rw [← eT]
  have hq := hI.1
  intro i j hi hj
  unfold elmR
  by_cases h1 : i = c
  · rw [if_pos h1, Tc]
    by_cases h2 : j = c
    · rw [h2, hiv, if_pos h1]
    · rw [Su c j hc (by omega), if_neg (by omega), if_neg (by omega), Int.zero_mul, Int.zero_emod]
  · rw [if_neg h1]
    show (T i j - T i c * T c j) % q = _
    by_cases h2 : j = c
    · rw [h2, Tc, hiv, if_neg h1, Int.mul_one, Int.sub_self, Int.zero_emod]
    · rw [Tc, Su c j hc (by omega), if_neg (by omega), Tn i h1, Su i j hi (by omega), Int.zero_mul, Int.zero_emod, Int.mul_zero, Int.sub_zero]
      split
      · exact Int.emod_eq_of_lt (by omega) (by omega)
      · exact Int.zero_emod _
/-- what the equations tell: a solution, or a vector that goes to 0 -/
theorem gauR_sp {q : Int} {inv : Nat → Int} (hI : invP q inv) {n : Nat} : ∀ (k c : Nat) (E : Nat → Nat → Int), c + k = n → okE q n E → unitC n c E → (∃ F, gauR q inv n k c E = some F ∧ okE q n F ∧ kerE q n E (fun j => if j = n then -1 else F j n)) ∨ (gauR q inv n k c E = none ∧ ∃ z, kerE q n E z ∧ z n = 0 ∧ ∃ j, j < n ∧ z j = -1)
  | 0, c, E, e, hE, hu => by
    refine .inl ⟨E, rfl, hE, fun i hi => ?_⟩
    have hs := smI_two (f := fun j => E i j * (if j = n then -1 else E j n)) (i := i) (k := n) (by omega) (n + 1) (by omega) (by omega) (fun j hj h1 h2 => by
      show E i j * (if j = n then -1 else E j n) = 0
      rw [hu i j hi (by omega), if_neg (fun e => h1 e.symm), Int.zero_mul])
    rw [hs]
    show (E i i * (if i = n then -1 else E i n) + E i n * (if n = n then -1 else E n n)) % q = 0
    rw [hu i i hi (by omega), if_pos rfl, if_neg (by omega), if_pos rfl]
    rw [show 1 * E i n + E i n * -1 = 0 by omega, Int.zero_emod]
  | k + 1, c, E, e, hE, hu => by
    by_cases hp : pivR E c (n - c) c = n
    · refine .inr ⟨by unfold gauR; rw [if_pos hp], fun j => if j = c then -1 else if j < c then E j c else 0, fun i hi => ?_, ?_, c, by omega, if_pos rfl⟩
      · have hz := pivR_no E c (n - c) c (by omega)
        by_cases hic : i < c
        · have hs := smI_two (f := fun j => E i j * (if j = c then -1 else if j < c then E j c else 0)) (i := i) (k := c) (by omega) (n + 1) (by omega) (by omega) (fun j hj h1 h2 => by
            show E i j * (if j = c then -1 else if j < c then E j c else 0) = 0
            rw [if_neg h2]
            split
            · rw [hu i j hi (by omega), if_neg (fun e => h1 e.symm), Int.zero_mul]
            · rw [Int.mul_zero])
          rw [hs]
          show (E i i * (if i = c then -1 else if i < c then E i c else 0) + E i c * (if c = c then -1 else if c < c then E c c else 0)) % q = 0
          rw [hu i i hi hic, if_pos rfl, if_neg (by omega), if_pos hic, if_pos rfl, show 1 * E i c + E i c * -1 = 0 by omega, Int.zero_emod]
        · rw [smI_0 (n + 1) (fun j hj => by
            show E i j * (if j = c then -1 else if j < c then E j c else 0) = 0
            by_cases h2 : j = c
            · rw [h2, hz i (by omega) (by omega), Int.zero_mul]
            · rw [if_neg h2]
              split
              · rw [hu i j hi (by omega), if_neg (by omega), Int.zero_mul]
              · rw [Int.mul_zero]), Int.zero_emod]
      · show (if n = c then -1 else if n < c then E n c else 0) = (0 : Int)
        rw [if_neg (by omega), if_neg (by omega)]
    · have hc : c < n := by omega
      have hlt : pivR E c (n - c) c < n := by have := pivR_sp E c (n - c) c; omega
      obtain ⟨g1, g2⟩ := gauS_ker hI hE hc hp hu
      have hE2 := gauS_ok (inv := inv) (by have := hI.1; omega) hE hc hlt
      have eg : gauR q inv n (k + 1) c E = gauR q inv n k (c + 1) (gauS q inv n c E) := by
        show (if pivR E c (n - c) c = n then none else _) = _
        rw [if_neg hp]
      rw [eg]
      rcases gauR_sp hI k (c + 1) (gauS q inv n c E) (by omega) hE2 g1 with ⟨F, e1, e2, e3⟩ | ⟨e1, z, e2, e3⟩
      · exact .inl ⟨F, e1, e2, g2 _ e3⟩
      · exact .inr ⟨e1, z, g2 _ e2, e3⟩
/-! the matrix of a multiplication -/
def sK {K : Type} [Lean.Grind.CommRing K] (p : Nat) (z : Nat → Int) (w : Nat → K) : Nat → K
  | 0 => 0
  | n + 1 => sK p z w n + nc (z n % (p : Int)).toNat * w n
theorem b_sK {p : Nat} {K : Type} [Lean.Grind.CommRing K] {x : K} {ln : K → Nat} {co : K → Nat → Int} (h : KX p K x ln) (o : CO p K x ln co) (z : Nat → Int) (w : Nat → K) (i : Nat) : ∀ n, co (sK p z w n) i = smI (fun j => co (w j) i * z j) n % (p : Int)
  | 0 => by rw [show sK p z w 0 = 0 from rfl, co_0 h o]; rfl
  | n + 1 => by
    have hp := h.1.two
    show co (sK p z w n + nc (z n % (p : Int)).toNat * w n) i = (smI (fun j => co (w j) i * z j) n + co (w n) i * z n) % (p : Int)
    rw [o.2.2.2.1, o.2.2.2.2.1, b_sK h o z w i n, Int.toNat_of_nonneg (Int.emod_nonneg _ (by omega)), Int.add_emod (smI _ n), Int.mul_comm (co (w n) i)]
    congr 2
    rw [Int.mul_emod, Int.emod_emod_of_dvd _ (Int.dvd_refl _), ← Int.mul_emod]
theorem b_whK {p : Nat} {K : Type} [Lean.Grind.CommRing K] {x : K} {ln : K → Nat} {co : K → Nat → Int} (h : KX p K x ln) (o : CO p K x ln co) {inv : Nat → Int} (hI : invP (p : Int) inv) {m a : K} (hm : ln m ≤ 25) (h2 : 2 ≤ ln m) (ha : ln a ≤ 25) : ∃ w : Nat → K, ∀ j, (dvm (p : Int) inv (whK (p : Int) inv (co a) (co m) j) (co m)).1 = co (w j) ∧ ln (w j) < ln m ∧ mdv m (x ^ j * a - w j) := by
  have h0 : m ≠ 0 := by rintro rfl; rw [h.2.2.2.2.1] at h2; omega
  have key : ∀ j, ∃ v w : K, whK (p : Int) inv (co a) (co m) j = co v ∧ ln v ≤ 26 ∧ (dvm (p : Int) inv (co v) (co m)).1 = co w ∧ ln w < ln m ∧ mdv m (x ^ j * a - w) := by
    intro j
    induction j with
    | zero =>
      obtain ⟨q, r, e1, e2, lr⟩ := b_dvm h o hI (a := a) (b := m) (by omega) (by omega) h0
      exact ⟨a, r, rfl, by omega, by rw [e1], lr, ⟨q, by rw [Lean.Grind.Semiring.pow_zero]; grind⟩⟩
    | succ j ih =>
      obtain ⟨v, w, e1, l1, e2, l2, d2⟩ := ih
      have l3 : ln (x * w) ≤ 26 := by
        have := ma_lnle h 0 w
        rw [show (nc 0 : K) + x * w = x * w by grind] at this
        omega
      obtain ⟨q, r, e3, e4, lr⟩ := b_dvm h o hI (a := x * w) (b := m) (by omega) (by omega) h0
      refine ⟨x * w, r, ?_, l3, by rw [e3], lr, ?_⟩
      · show shf (dvm (p : Int) inv (whK (p : Int) inv (co a) (co m) j) (co m)).1 = _
        rw [e1, e2]
        funext k
        unfold shf
        cases k with
        | zero => rw [if_pos rfl, (o.2.2.2.2.2.1 w).1]
        | succ k => rw [if_neg (by omega), (o.2.2.2.2.2.1 w).2]; rfl
      · rw [Lean.Grind.Semiring.pow_succ]
        exact mdv_e (mdv_a (mdv_ml x d2) (a := m) (c := x * w - r) ⟨q, by grind⟩) (by grind)
  refine ⟨fun j => Classical.choose (Classical.choose_spec (key j)), fun j => ?_⟩
  have := Classical.choose_spec (Classical.choose_spec (key j))
  refine ⟨?_, this.2.2.2⟩
  rw [this.1]
  exact this.2.2.1
/-- a vector of the kernel as a polynomial -/
theorem b_ker {p : Nat} {K : Type} [Lean.Grind.CommRing K] {x : K} {ln : K → Nat} {co : K → Nat → Int} (h : KX p K x ln) (o : CO p K x ln co) {inv : Nat → Int} (hI : invP (p : Int) inv) {m a : K} (hm : ln m ≤ 25) (h2 : 2 ≤ ln m) (ha : ln a ≤ 25) {z : Nat → Int} (hk : kerE (p : Int) (ln m - 1) (matR (p : Int) inv (co a) (co m) (ln m - 1)) z) : ∃ y : K, (∀ i, co y i = if i < ln m - 1 then z i % (p : Int) else 0) ∧ ln y < ln m ∧ mdv m (y * a + nc (z (ln m - 1) % (p : Int)).toNat) := by
  have hp := h.1.two
  obtain ⟨w, hw⟩ := b_whK h o hI hm h2 ha
  have hy := b_sK h o z (fun j => x ^ j) 
  obtain ⟨y, ey⟩ : ∃ y, y = sK p z (fun j => x ^ j) (ln m - 1) := ⟨_, rfl⟩
  have cy : ∀ i, co y i = if i < ln m - 1 then z i % (p : Int) else 0 := by
    intro i
    rw [ey, hy]
    have e1 : ∀ j, co (x ^ j) i = if i = j then 1 else 0 := fun j => by
      have := co_xt h o j 1 i
      rw [show x ^ j * 1 = x ^ j by grind, b_one h o] at this
      rw [this]
      unfold oneP
      by_cases h1 : i = j
      · subst h1; simp
      · rw [if_neg h1]
        split
        · rfl
        · rw [if_neg (by omega)]
    by_cases hi : i < ln m - 1
    · rw [if_pos hi, smI_one (ln m - 1) hi (fun j hj hne => by rw [e1, if_neg (fun e => hne e.symm), Int.zero_mul])]
      show co (x ^ i) i * z i % (p : Int) = _
      rw [e1, if_pos rfl, Int.one_mul]
    · rw [if_neg hi, smI_0 (ln m - 1) (fun j hj => by rw [e1, if_neg (by omega), Int.zero_mul]), Int.zero_emod]
  refine ⟨y, cy, ?_, ?_⟩
  · have := co_ln h o (a := y) (n := ln m - 1) (fun i hi => by rw [cy, if_neg (by omega)])
    omega
  · have e2 : sK p z w (ln m - 1) + nc (z (ln m - 1) % (p : Int)).toNat = 0 := by
      refine co_ext h o (funext (fun i => ?_))
      rw [co_0 h o, o.2.2.2.1, b_sK h o, o.2.2.2.2.2.2.1, Int.toNat_of_nonneg (Int.emod_nonneg _ (by omega)), Int.emod_emod_of_dvd _ (Int.dvd_refl _)]
      have lw : ∀ n, n ≤ ln m - 1 → ∀ j, ln (w j) ≤ ln m - 1 := fun n hn j => by have := (hw j).2.1; omega
      by_cases hi : i < ln m - 1
      · have := hk i hi
        rw [show smI (fun j => matR (p : Int) inv (co a) (co m) (ln m - 1) i j * z j) (ln m - 1 + 1) = smI (fun j => matR (p : Int) inv (co a) (co m) (ln m - 1) i j * z j) (ln m - 1) + matR (p : Int) inv (co a) (co m) (ln m - 1) i (ln m - 1) * z (ln m - 1) from rfl] at this
        rw [smI_congr (g := fun j => co (w j) i * z j) (ln m - 1) (fun j hj => by
          unfold matR
          rw [if_neg (by omega), (hw j).1])] at this
        unfold matR at this
        rw [if_pos rfl] at this
        by_cases hi0 : i = 0
        · rw [if_pos hi0, Int.one_mul] at this
          rw [if_pos hi0, ← Int.add_emod]
          exact this
        · rw [if_neg hi0, Int.zero_mul, Int.add_zero] at this
          rw [if_neg hi0, Int.add_zero, Int.emod_emod_of_dvd _ (Int.dvd_refl _)]
          exact this
      · rw [smI_0 (ln m - 1) (fun j hj => by rw [co_z h o (a := w j) (by have := lw 0 (by omega) j; omega), Int.zero_mul]), if_neg (by omega)]
        rfl
    have e3 : ∀ n, mdv m (sK p z (fun j => x ^ j) n * a - sK p z w n) := by
      intro n
      induction n with
      | zero => exact mdv_e (mdv_0 m) (by show 0 = (0 : K) * a - 0; grind)
      | succ n ih =>
        show mdv m ((sK p z (fun j => x ^ j) n + nc (z n % (p : Int)).toNat * x ^ n) * a - (sK p z w n + nc (z n % (p : Int)).toNat * w n))
        exact mdv_e (mdv_a ih (mdv_ml (nc (z n % (p : Int)).toNat) (hw n).2.2)) (by grind)
    rw [ey]
    exact mdv_e (e3 (ln m - 1)) (by grind)
theorem matR_okE {p : Nat} {K : Type} [Lean.Grind.CommRing K] {x : K} {ln : K → Nat} {co : K → Nat → Int} (h : KX p K x ln) (o : CO p K x ln co) {inv : Nat → Int} (hI : invP (p : Int) inv) {m a : K} (hm : ln m ≤ 25) (h2 : 2 ≤ ln m) (ha : ln a ≤ 25) : okE (p : Int) (ln m - 1) (matR (p : Int) inv (co a) (co m) (ln m - 1)) := by
  have hp := h.1.two
  obtain ⟨w, hw⟩ := b_whK h o hI hm h2 ha
  intro i j hi hj
  unfold matR
  split
  · split <;> omega
  · rw [(hw j).1]; exact co_rg h o (w j) i
theorem inv_eq {pr : Int} {inv : Nat → Int} (hl : 0 ≤ limF pr) (hI : invP pr inv) {A M : Nat → Int} (hA : okp pr 25 A) (hM : okp pr 25 M) (hd : 1 ≤ dg 300 M) : (dg 300 (invZ pr inv A M).1 < 0 ∧ invR pr inv A M = none) ∨ (0 ≤ dg 300 (invZ pr inv A M).1 ∧ invR pr inv A M = some (fun x => (invZ pr inv A M).2 x * inv ((invZ pr inv A M).1 (dg 300 (invZ pr inv A M).1).toNat).toNat % pr)) := by
  obtain ⟨p, rfl, h6⟩ := p6_lim hl
  obtain ⟨K, _, x, ln, co, th, h, o, t⟩ := KX_ex h6
  obtain ⟨a, rfl, la⟩ := b_of h o hA
  obtain ⟨m, rfl, lm⟩ := b_of h o hM
  have hp := h.1.two
  have em := b_dg h o (a := m) (by omega)
  rw [em] at hd
  have h2 : 2 ≤ ln m := by omega
  obtain ⟨l, lt, e1, l1, l2, d1, d2⟩ := b_invZ h o hI lm h2 la
  have en : (dg 300 (co m)).toNat = ln m - 1 := by omega
  have el := b_dg h o (a := l) (by omega)
  rw [e1]
  unfold invR
  rw [en]
  have gs := gauR_sp hI (n := ln m - 1) (ln m - 1) 0 (matR (p : Int) inv (co a) (co m) (ln m - 1)) (by omega) (matR_okE h o hI lm h2 la) (fun i j hi hj => by omega)
  by_cases hl0 : l = 0
  · obtain ⟨d, hd1, hd2, hd3⟩ := d2 hl0
    refine .inl ⟨by rw [el, hl0, h.2.2.2.2.1]; decide, ?_⟩
    rcases gs with ⟨F, g1, g2, g3⟩ | ⟨g1, _⟩
    · exfalso
      obtain ⟨y, y1, y2, y3⟩ := b_ker h o hI lm h2 la g3
      have y4 : mdv m (y * a - 1) := by
        have e5 : ((if ln m - 1 = ln m - 1 then -1 else F (ln m - 1) (ln m - 1)) % (p : Int)).toNat = p - 1 := by
          rw [if_pos rfl, show (-1 : Int) % (p : Int) = (p : Int) - 1 by
            rw [show (-1 : Int) = ((p : Int) - 1) + (p : Int) * (-1) by omega, Int.add_mul_emod_self_left, Int.emod_eq_of_lt (by omega) (by omega)]]
          omega
        rw [e5, ma_neg1 h] at y3
        exact mdv_e y3 (by grind)
      have y5 : mdv d 1 := mdv_e (mdv_s (mdv_ml y hd3) (mdv_t hd2 y4)) (by grind)
      have := ma_dvle h y5 (ma_1 h).2
      have := (ma_1 h).1
      omega
    · rw [g1]; rfl
  · have ll0 : ln l ≠ 0 := fun e => hl0 ((ma_ln0 h).1 e)
    refine .inr ⟨by rw [el]; omega, ?_⟩
    obtain ⟨u, hu, eu, mu⟩ := b_mon h o hI (a := l) (by omega) hl0
    have et : (dg 300 (co l)).toNat = 0 := by rw [el]; omega
    have hr := co_rg h o l 0
    have hl1 : co l 0 ≠ 0 := by have := co_top h o hl0; rwa [show ln l - 1 = 0 by omega] at this
    have hv := hI.inv (v := co l 0) ⟨by omega, hr.2⟩
    show _ = some (fun y => co lt y * inv (co l (dg 300 (co l)).toNat).toNat % (p : Int))
    rw [et]
    generalize inv (co l 0).toNat = v at hv
    have ev : v = ((v.toNat : Nat) : Int) := (Int.toNat_of_nonneg (by omega)).symm
    have er : (fun y => co lt y * v % (p : Int)) = co (nc v.toNat * lt) := by
      funext y
      rw [o.2.2.2.2.1, Int.mul_comm, ← ev]
    rw [er]
    have elc : l = nc (co l 0).toNat := by
      obtain ⟨c, d, ec, _⟩ := ma_unit h hl0 l1
      rw [ec]
      have e9 := o.2.2.2.2.2.2.1 c 0
      rw [if_pos rfl] at e9
      rw [e9, ← Int.natCast_emod, Int.toNat_natCast, ma_cmod h]
    have e10 : (nc v.toNat : K) * l = 1 := by
      rw [elc, ← nc_mul, ← ma_cmod h]
      have e11 : v.toNat * (co l 0).toNat % p = 1 := by
        have := hv.2
        rw [ev, show co l 0 = (((co l 0).toNat : Nat) : Int) from (Int.toNat_of_nonneg hr.1).symm, ← Int.natCast_mul, ← Int.natCast_emod] at this
        rw [Nat.mul_comm]
        omega
      rw [e11]
      grind
    have e12 : mdv m ((nc v.toNat * lt) * a - 1) := mdv_e (mdv_ml (nc v.toNat) d1) (by grind)
    rcases gs with ⟨F, g1, g2, g3⟩ | ⟨g1, z, g2, g3, j, g4, g5⟩
    · obtain ⟨y, y1, y2, y3⟩ := b_ker h o hI lm h2 la g3
      have y4 : mdv m (y * a - 1) := by
        have e5 : ((if ln m - 1 = ln m - 1 then -1 else F (ln m - 1) (ln m - 1)) % (p : Int)).toNat = p - 1 := by
          rw [if_pos rfl, show (-1 : Int) % (p : Int) = (p : Int) - 1 by
            rw [show (-1 : Int) = ((p : Int) - 1) + (p : Int) * (-1) by omega, Int.add_mul_emod_self_left, Int.emod_eq_of_lt (by omega) (by omega)]]
          omega
        rw [e5, ma_neg1 h] at y3
        exact mdv_e y3 (by grind)
      have ey : y = nc v.toNat * lt := by
        have l9 := ma_lnm h v.toNat lt
        refine ma_red h (m := m) (a := y) (mdv_rf m y) ?_ y2 (by omega)
        exact mdv_e (mdv_s (mdv_ml (nc v.toNat * lt) y4) (mdv_ml y e12)) (by grind)
      rw [g1, ← ey]
      show some (fun x => if x < ln m - 1 then F x (ln m - 1) else 0) = some (co y)
      congr 1
      funext i
      rw [y1]
      by_cases hi : i < ln m - 1
      · have hF := g2 i (ln m - 1) hi (Nat.le_refl _)
        rw [if_pos hi, if_pos hi, if_neg (by omega), Int.emod_eq_of_lt hF.1 hF.2]
      · rw [if_neg hi, if_neg hi]
    · exfalso
      obtain ⟨y, y1, y2, y3⟩ := b_ker h o hI lm h2 la g2
      rw [g3, Int.zero_emod] at y3
      have y4 : mdv m (y * a) := mdv_e y3 (by show y * a + nc (0 : Int).toNat = y * a; simp only [Int.toNat_zero]; grind)
      have y5 : mdv m y := mdv_e (mdv_s (mdv_ml (nc v.toNat * lt) y4) (mdv_ml y e12)) (by grind)
      have y6 := ma_dv0 h y5 y2
      have := y1 j
      rw [y6, co_0 h o, if_pos g4, g5, show (-1 : Int) % (p : Int) = (p : Int) - 1 by
            rw [show (-1 : Int) = ((p : Int) - 1) + (p : Int) * (-1) by omega, Int.add_mul_emod_self_left, Int.emod_eq_of_lt (by omega) (by omega)]] at this
      omega
end MH
