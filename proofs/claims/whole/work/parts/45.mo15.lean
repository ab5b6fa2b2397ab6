/-- the equations: rows in some order; what counts are the numbers at i < n, j ≤ n -/
def eqV (cs : Nat → ClassId) (ad : Nat → Nat) (n : Nat) (pm : Nat → Nat) (F : Nat → Nat → Int) (B : Nat → va_E) : Prop := (∀ i, i < 25 → pm i < 25) ∧ (∀ i j, i < 25 → j < 25 → pm i = pm j → i = j) ∧ B 136 = aG cs ad 25 (fun i => 188 + pm i) ∧ ∀ i, i < 25 → ∃ G : Nat → Int, B (188 + pm i) = aI cs 26 G ∧ (i < n → ∀ j, j ≤ n → G j = F i j)
theorem eqV.ext {cs : Nat → ClassId} {ad : Nat → Nat} {n : Nat} {pm : Nat → Nat} {F F' : Nat → Nat → Int} {B : Nat → va_E} (h : eqV cs ad n pm F B) (e : ∀ i j, i < n → j ≤ n → F i j = F' i j) : eqV cs ad n pm F' B :=
  ⟨h.1, h.2.1, h.2.2.1, fun i hi => by
    obtain ⟨G, h1, h2⟩ := h.2.2.2 i hi
    exact ⟨G, h1, fun hn j hj => by rw [h2 hn j hj]; exact e i j hn hj⟩⟩
theorem eqV.st {cs : Nat → ClassId} {ad : Nat → Nat} {n : Nat} {pm : Nat → Nat} {F : Nat → Nat → Int} {B : Nat → va_E} (h : eqV cs ad n pm F B) {i j : Nat} {v : Int} (hi : i < 25) {G : Nat → Int} (hG : i < n → ∀ q, q ≤ n → G q = F i q) : eqV cs ad n pm (va_up F i (va_up (F i) j v)) (va_up B (188 + pm i) (aI cs 26 (va_up G j v))) := by
  have hp := h.1 i hi
  refine ⟨h.1, h.2.1, by rw [va_up_ne _ _ (by omega)]; exact h.2.2.1, fun k hk => ?_⟩
  by_cases e : k = i
  · subst e
    refine ⟨va_up G j v, va_up_self _ _ _, fun hn q hq => ?_⟩
    rw [va_up_self]
    by_cases e2 : q = j
    · rw [e2, va_up_self, va_up_self]
    · rw [va_up_ne _ _ e2, va_up_ne _ _ e2]; exact hG hn q hq
  · obtain ⟨G', h1, h2⟩ := h.2.2.2 k hk
    refine ⟨G', ?_, fun hn q hq => ?_⟩
    · rw [va_up_ne _ _ (fun q => e (h.2.1 k i hk hi (by omega)))]; exact h1
    · rw [va_up_ne _ _ e]; exact h2 hn q hq
theorem eqV.other {cs : Nat → ClassId} {ad : Nat → Nat} {n : Nat} {pm : Nat → Nat} {F : Nat → Nat → Int} {B : Nat → va_E} (h : eqV cs ad n pm F B) {i : Nat} {x : va_E} (hi : i < 136) : eqV cs ad n pm F (va_up B i x) :=
  ⟨h.1, h.2.1, by rw [va_up_ne _ _ (by omega)]; exact h.2.2.1, fun k hk => by
    obtain ⟨G, h1, h2⟩ := h.2.2.2 k hk
    exact ⟨G, by rw [va_up_ne _ _ (by omega)]; exact h1, h2⟩⟩
def swpR (E : Nat → Nat → Int) (r c : Nat) : Nat → Nat → Int := va_up (va_up E r (E c)) c (E r)
theorem eqV.swap {cs : Nat → ClassId} {ad : Nat → Nat} {n : Nat} {pm : Nat → Nat} {F : Nat → Nat → Int} {B : Nat → va_E} (h : eqV cs ad n pm F B) {r c : Nat} (hr : r < n) (hc : c < n) (hn : n ≤ 24) : eqV cs ad n (va_up (va_up pm r (pm c)) c (pm r)) (swpR F r c) (va_up B 136 (aG cs ad 25 (fun i => 188 + va_up (va_up pm r (pm c)) c (pm r) i))) := by
  have key : ∀ i, i < 25 → ∃ k, k < 25 ∧ va_up (va_up pm r (pm c)) c (pm r) i = pm k ∧ (swpR F r c i = F k) ∧ (i < n → k < n) ∧ ((i = c ∧ k = r) ∨ (i ≠ c ∧ i = r ∧ k = c) ∨ (i ≠ c ∧ i ≠ r ∧ k = i)) := by
    intro i hi
    unfold swpR
    by_cases e1 : i = c
    · subst e1; exact ⟨r, by omega, va_up_self _ _ _, va_up_self _ _ _, fun _ => hr, Or.inl ⟨rfl, rfl⟩⟩
    · by_cases e2 : i = r
      · subst e2; exact ⟨c, by omega, by rw [va_up_ne _ _ e1, va_up_self], by rw [va_up_ne _ _ e1, va_up_self], fun _ => hc, Or.inr (Or.inl ⟨e1, rfl, rfl⟩)⟩
      · exact ⟨i, hi, by rw [va_up_ne _ _ e1, va_up_ne _ _ e2], by rw [va_up_ne _ _ e1, va_up_ne _ _ e2], fun h => h, Or.inr (Or.inr ⟨e1, e2, rfl⟩)⟩
  refine ⟨fun i hi => ?_, fun i j hi hj e => ?_, va_up_self _ _ _, fun i hi => ?_⟩
  · obtain ⟨k, k1, k2, -⟩ := key i hi
    rw [k2]; exact h.1 k k1
  · obtain ⟨k, k1, k2, -, -, k3⟩ := key i hi
    obtain ⟨q, q1, q2, -, -, q3⟩ := key j hj
    rw [k2, q2] at e
    have := h.2.1 k q k1 q1 e
    omega
  · obtain ⟨k, k1, k2, k3, k4, -⟩ := key i hi
    obtain ⟨G, h1, h2⟩ := h.2.2.2 k k1
    have hp := h.1 k k1
    refine ⟨G, ?_, fun hn j hj => ?_⟩
    · rw [k2, va_up_ne _ _ (by omega)]; exact h1
    · rw [k3]; exact h2 (k4 hn) j hj
theorem moO.up {cs : Nat → ClassId} {ad : Nat → Nat} {th pr fc : Int} {B : Nat → va_E} (h : moO cs ad th pr fc B) {i : Nat} (hi : 135 ≤ i) (x : va_E) : moO cs ad th pr fc (va_up B i x) := ⟨by rw [va_up_ne _ _ (by omega)]; exact h.1, by rw [va_up_ne _ _ (by omega)]; exact h.2.1, by rw [va_up_ne _ _ (by omega)]; exact h.2.2⟩
theorem asg_self (vm : Vm) (c : ClassId) : vm.assignable c c = true := by
  unfold Vm.assignable
  rw [show (256 : Nat) = 255 + 1 from rfl, Vm.assignableAux, beq_self_eq_true, Bool.true_or]
section MEQ
variable {p : Program} {l : Launch} {e : Env} {R : Room} {s : State} {m : MethodId} {args : Array Value} {below : List Frame} {meth : Method} {c : Code} {H : Heap} {locs : List Loc} {cells slots : Nat} {Q : State → Prop} {D : va_G} {cs : Nat → ClassId} {A : Nat → Prop} {ad : Nat → Nat} {T : Nat}
variable {cc : ByteArray} {own : String} {pc : Nat} {ls : Array Slot} {rest st : List Value} {M : Nat → Nat → Int} {B : Nat → va_E} {n : Nat} {pm : Nat → Nat} {F : Nat → Nat → Int}
theorem e_row {z : Int} (X : Cx p s m args c cc own) (hT : 213 ≤ T) (w : Wd D cs A ad T s (mkR cs M B) H locs) (hE : eqV cs ad n pm F B) (j : Nat) (hz : z = (j : Int)) (hj : j < 25) (hdg : decode cc pc = .ok (.aaload, 1))
    (kk : W p l e R s m args below meth c H locs cells slots Q (F0 m (pc + 1) ls (.ref (ad (188 + pm j)) :: rest))) : W p l e R s m args below meth c H locs cells slots Q (F0 m pc ls (.int (iI z) :: .ref (ad 136) :: rest)) :=
  m_aal (i := 136) (n := 25) (pl := fun i => 188 + pm i) X w (Nat.lt_of_lt_of_le (by omega) hT) (by rw [mkR_B (by decide)]; exact hE.2.2.1) j hz hj (by decide) hdg kk
theorem e_ld {z : Int} (X : Cx p s m args c cc own) (hT : 213 ≤ T) (w : Wd D cs A ad T s (mkR cs M B) H locs) (hE : eqV cs ad n pm F B) (hn : n ≤ 24) (i : Nat) (hi : i < n) (j : Nat) (hz : z = (j : Int)) (hj : j ≤ n) (hdg : decode cc pc = .ok (.iaload, 1))
    (kk : W p l e R s m args below meth c H locs cells slots Q (F0 m (pc + 1) ls (.int (iI (F i j)) :: rest))) : W p l e R s m args below meth c H locs cells slots Q (F0 m pc ls (.int (iI z) :: .ref (ad (188 + pm i)) :: rest)) := by
  obtain ⟨G, h1, h2⟩ := hE.2.2.2 i (by omega)
  have hp := hE.1 i (by omega)
  rw [← h2 hi j hj] at kk
  exact w_ild X w (Nat.lt_of_lt_of_le (by omega) hT) (by rw [mkR_B (by omega)]; exact h1) j hz (by omega) (by decide) hdg kk
theorem e_st {z v : Int} {th pr fc : Int} (X : Cx p s m args c cc own) (hT : 213 ≤ T) (w : Wd D cs A ad T s (mkR cs M B) H locs) (hB : moO cs ad th pr fc B) (hE : eqV cs ad n pm F B) (hn : n ≤ 24) (i : Nat) (hi : i < n) (j : Nat) (hz : z = (j : Int)) (hj : j ≤ n) (hdg : decode cc pc = .ok (.iastore, 1))
    (kk : ∀ (B1 : Nat → va_E) (H1 : Heap) (locs1 : List Loc), Wd D cs A ad T s (mkR cs M B1) H1 locs1 → moO cs ad th pr fc B1 → eqV cs ad n pm (va_up F i (va_up (F i) j v)) B1 → (∀ q, q < 188 ∨ 213 ≤ q → B1 q = B q) → W p l e R s m args below meth c H1 locs1 cells slots Q (F0 m (pc + 1) ls rest)) : W p l e R s m args below meth c H locs cells slots Q (F0 m pc ls (.int (iI v) :: .int (iI z) :: .ref (ad (188 + pm i)) :: rest)) := by
  obtain ⟨G, h1, h2⟩ := hE.2.2.2 i (by omega)
  have hp := hE.1 i (by omega)
  exact w_ist X w (Nat.lt_of_lt_of_le (by omega) hT) (by rw [mkR_B (by omega)]; exact h1) j hz (by omega) (by decide) hdg (fun H1 locs1 h => kk _ H1 locs1 (by rw [mkR_sB (by omega)] at h; exact h) (hB.up (by omega) _) (hE.st (by omega) h2) (fun q hq => va_up_ne _ _ (by omega)))
theorem m_eas {C : Nat → va_E} {i v n n2 : Nat} {pl : Nat → Nat} {G : Nat → Int} {z : Int} (X : Cx p s m args c cc own) (hover : (Cond.arrayOver (.array .int)).before #[] s = true) (w : Wd D cs A ad T s C H locs) (hi : i < T) (hC : C i = aG cs ad n pl) (hv : v < T) (hCv : C v = aI cs n2 G) (j : Nat) (hz : z = (j : Int)) (hj : j < n) (hn : n < 2147483648) (hdg : decode cc pc = .ok (.aastore, 1))
    (kk : ∀ (H1 : Heap) (locs1 : List Loc), Wd D cs A ad T s (va_up C i (aG cs ad n (va_up pl j v))) H1 locs1 → W p l e R s m args below meth c H1 locs1 cells slots Q (F0 m (pc + 1) ls rest)) : W p l e R s m args below meth c H locs cells slots Q (F0 m pc ls (.ref (ad v) :: .int (iI z) :: .ref (ad i) :: rest)) := by
  subst hz
  have hP := w.2.2.2.1
  have hD := w.2.1.va C
  have ha : (vW ad C T)[i]? = some (ad i, .inl (cs 3, n, .inr (.inr (.inr (.inr (fun q => some (ad (pl q)))))))) := by rw [vW_get hi, hC]; rfl
  have hvv : (vW ad C T)[v]? = some (ad v, .inl (cs 0, n2, .inl (iA G))) := by rw [vW_get hv, hCv]; rfl
  have hin := iI_in hj hn
  have hlt : (iI (j : Int)).toNatClampNeg < n := Nat.not_le.mp fun q => hin (Or.inr q)
  have h0 : ¬ iI (j : Int) < 0 := fun q => hin (Or.inl q)
  obtain ⟨comp, cA, kA, hcomp, hidx, hkA, hkindA, hnameA⟩ := arrayOverA_spec hover
  have f3 : s.vm.findClass ("[" ++ (FieldType.array .int).toString) = some (cs 3) := (w.1.2 3 _ rfl).2
  have f0 : s.vm.findClass ("[" ++ FieldType.int.toString) = some (cs 0) := (w.1.2 0 _ rfl).2
  have g3 : cA = cs 3 := Option.some.inj (hnameA.symm.trans f3)
  have g0 : comp = cs 0 := Option.some.inj (hcomp.symm.trans f0)
  subst g3
  subst g0
  obtain ⟨k0, hk0, -⟩ := Vm.findClass_spec hcomp
  refine W.aast X.1 X.2.1 (hP i _ ha) (fun q h => by cases h) (fun h => by cases h) hkA hkindA rfl hk0 ⟨h0, by show _ < (arrV _ _ _).slots.size; rw [arrV_size]; exact hlt⟩ (hP v _ hvv) (fun q h => by cases h) hk0 (asg_self _ _) rfl rfl hdg fun H1 e z oq => ?_
  have e2 : (vW ad C T).set i (ad i, .inl (cs 3, n, .inr (.inr (.inr (.inr (va_up (fun q => some (ad (pl q))) j (some (ad v)))))))) = vW ad (va_up C i (aG cs ad n (va_up pl j v))) T := by
    rw [vW_set]
    congr 2
    unfold aG
    have e : (fun i => some (ad (va_up pl j v i))) = va_up (fun i => some (ad (pl i))) j (some (ad v)) := by
      funext i
      unfold va_up
      split <;> rfl
    rw [e]
  refine kk H1 _ ⟨w.1, w.2.1, w.2.2.1, ?_, w.2.2.2.2.put z oq (hD.2 i _ ha)⟩
  rw [← e2]
  refine hP.set hD ha ?_ oq
  show H1[ad i]? = some (vp_cell _ _)
  rw [e]
  rw [vp_cell_q, vp_cell_q, arrV_store, iI_clamp (by omega)]
  congr 2
  funext q
  by_cases hq : q = j
  · subst hq
    simp [updV, va_up, va_rf]
  · simp [updV, va_up, hq]
end MEQ
