/-! the law's invariant: class and reference hold the same -/
theorem Met.pre {l : Launch} {y : MethodName} {ws : List Cond} {rm : Room} {P P' : Array Value → State → Prop} {Q : Array Value → State → Outcome → State → Prop} {mc ms : Nat} {A : Addr → Prop} (h : Met l y ws rm P Q mc ms A) (hp : ∀ a s, P' a s → P a s) : Met l y ws rm P' Q mc ms A :=
  fun p e ha hc hk s m args below hf app hP t => h p e ha hc hk s m args below hf app (hp _ _ hP) t
def CR (l : Launch) (y : MethodName) (ws : List Cond) (rm : Room) (D : va_G) (cs : Nat → ClassId) (A : Nat → Prop) (ad : Nat → Nat) (T : Nat) (av : List Value) (C : Nat → va_E) (post : Int32 → (Nat → va_E) → Prop) : Prop := CiE l y ws rm (EV A) D cs A ad T av C post
section LI1
variable {l : Launch} {y : MethodName} {ws : List Cond} {rm : Room} {D : va_G} {cs : Nat → ClassId} {A : Nat → Prop} {ad : Nat → Nat} {T : Nat} {av : List Value} {C C' : Nat → va_E} {post : Int32 → (Nat → va_E) → Prop}
theorem CR_of (h : Ci l y ws rm D cs A ad T av C post) (e : C = C') : CR l y ws rm D cs A ad T av C' post := by
  subst e
  exact Met.pre h (fun a s hq => ⟨hq.1, hq.2.1⟩)
theorem CR_ofE (h : CiE l y ws rm AOI D cs A ad T av C post) (e : C = C') : CR l y ws rm D cs A ad T av C' post := by
  subst e
  exact Met.pre h (fun a s hq => ⟨hq.1, hq.2.1, hq.2.2.2.2.2.2.1⟩)
theorem FXi_e {px : String → (Nat → va_E) → Prop} {k : Nat} (h : FXi l y ws rm D cs A ad T av C post px k) (e : C = C') : FXi l y ws rm D cs A ad T av C' post px k := by
  subst e
  exact h
end LI1
def CLI (cs : Nat → ClassId) (ad : Nat → Nat) (pr : Int) (inv : Nat → Int) (K : KS) (Rg : Nat → Nat → Int) (C : Nat → va_E) : Prop := ∃ G ph lo hi, C = mkV cs ad (rV G) C ∧ clI cs ad pr inv K ph lo hi G C ∧ ∀ r, r < 16 → G (21 + r) = Rg r
def MOI (cs : Nat → ClassId) (ad : Nat → Nat) (th pr : Int) (KR : KS) (M : Nat → Nat → Int) (C : Nat → va_E) : Prop := C = mkR cs M C ∧ moK cs ad th pr KR M C ∧ (∃ k0 pm Fq, eqV cs ad k0 pm Fq C) ∧ WR M
def RLI (K KR : KS) (Rg M : Nat → Nat → Int) (pr : Int) : Prop := 0 ≤ limF pr ∧ (∀ r, r < 16 → M r = Rg r) ∧ KR.1 = K.1 ∧ ∀ i, i < K.1 → KR.2.1 i = K.2.1 i ∧ KR.2.2 i = K.2.2 i
def LIo (cs : Nat → ClassId) (ad : Nat → Nat) (th : Int) (C : Nat → va_E) (ov : Nat → Int) : Prop := ∃ pr inv K KR Rg M, CLI cs ad pr inv K Rg C ∧ MOI cs ad th pr KR M C ∧ RLI K KR Rg M pr ∧ C 137 = aL cs 1 ov
abbrev LIt (cs : Nat → ClassId) (ad : Nat → Nat) (th : Int) (C : Nat → va_E) : Prop := ∃ ov, LIo cs ad th C ov
section LI2
variable {cs : Nat → ClassId} {ad : Nat → Nat} {th pr : Int} {inv : Nat → Int} {K KR : KS} {Rg M : Nat → Nat → Int} {C C' O O' : Nat → va_E} {G : Nat → Nat → Int} {ph : Nat → Nat} {lo hi : Nat → Int}
theorem clI_c (h : clI cs ad pr inv K ph lo hi G O) (hf : ∀ i, 122 ≤ i → i < 132 → O' i = O i) : clI cs ad pr inv K ph lo hi G O' := by
  obtain ⟨⟨a1, a2, a3⟩, ⟨b1, b2⟩, ⟨⟨c1, c2, c3, c4⟩, c5⟩, ⟨d1, d2, d3, d4⟩, e1⟩ := h
  exact ⟨⟨(hf 123 (by omega) (by omega)).trans a1, (hf 124 (by omega) (by omega)).trans a2, a3⟩, ⟨(hf 122 (by omega) (by omega)).trans b1, (hf 131 (by omega) (by omega)).trans b2⟩, ⟨⟨(hf 125 (by omega) (by omega)).trans c1, (hf 126 (by omega) (by omega)).trans c2, (hf 127 (by omega) (by omega)).trans c3, c4⟩, c5⟩, ⟨(hf 128 (by omega) (by omega)).trans d1, (hf 129 (by omega) (by omega)).trans d2, (hf 130 (by omega) (by omega)).trans d3, d4⟩, e1⟩
theorem mkV_self (h : C = mkV cs ad (rV G) O) : C = mkV cs ad (rV G) C := by
  funext i
  by_cases hi : i < 122
  · rw [h]; unfold mkV; rw [if_pos hi, if_pos hi]
  · unfold mkV; rw [if_neg hi]
theorem CLI_c (h : CLI cs ad pr inv K Rg C) (hf : ∀ i, i < 132 → C' i = C i) : CLI cs ad pr inv K Rg C' := by
  obtain ⟨G, ph, lo, hi, e, hc, hr⟩ := h
  refine ⟨G, ph, lo, hi, ?_, clI_c hc (fun i _ h2 => hf i h2), hr⟩
  funext i
  by_cases h1 : i < 122
  · rw [hf i (by omega), e]; unfold mkV; rw [if_pos h1, if_pos h1]
  · unfold mkV; rw [if_neg h1]
theorem CLI_of (h : clP cs ad pr inv K Rg O C') : CLI cs ad pr inv K Rg C' ∧ ∀ i, 132 ≤ i → C' i = O i := by
  obtain ⟨G', O', ph', lo', hi', e, hc, hr, hf⟩ := h
  refine ⟨⟨G', ph', lo', hi', mkV_self e, clI_c hc (fun i h1 _ => ?_), hr⟩, fun i hi => ?_⟩
  · rw [e]; unfold mkV; rw [if_neg (by omega)]
  · rw [e]; unfold mkV; rw [if_neg (by omega)]; exact hf i hi
theorem MOI_c (h : MOI cs ad th pr KR M C) (hf : ∀ i, 132 ≤ i → i < 213 → i ≠ 137 → C' i = C i) : MOI cs ad th pr KR M C' := by
  obtain ⟨e, ⟨⟨m1, m2, m3⟩, m4, m5⟩, ⟨k0, pm, Fq, q1, q2, q3, q4⟩, hW⟩ := h
  refine ⟨?_, ⟨⟨(hf 132 (by omega) (by omega) (by omega)).trans m1, (hf 133 (by omega) (by omega) (by omega)).trans m2, (hf 134 (by omega) (by omega) (by omega)).trans m3⟩, (hf 135 (by omega) (by omega) (by omega)).trans m4, m5⟩, ⟨k0, pm, Fq, q1, q2, (hf 136 (by omega) (by omega) (by omega)).trans q3, fun i hi => ?_⟩, hW⟩
  · funext i
    by_cases h1 : 138 ≤ i ∧ i < 188
    · rw [hf i (by omega) (by omega) (by omega), e]; unfold mkR; rw [if_pos h1, if_pos h1]
    · unfold mkR; rw [if_neg h1]
  · obtain ⟨G, g1, g2⟩ := q4 i hi
    have := q1 i hi
    exact ⟨G, (hf (188 + pm i) (by omega) (by omega) (by omega)).trans g1, g2⟩
theorem mkR_self {B : Nat → va_E} (h : C = mkR cs M B) : C = mkR cs M C := by
  funext i
  by_cases hi : 138 ≤ i ∧ i < 188
  · rw [h]; unfold mkR; rw [if_pos hi, if_pos hi]
  · unfold mkR; rw [if_neg hi]
theorem mkR_o {B : Nat → va_E} {i : Nat} (hi : i < 138 ∨ 188 ≤ i) : mkR cs M B i = B i := by unfold mkR; rw [if_neg (by omega)]
theorem mB_o {B : Nat → va_E} {t q f : Int} {i : Nat} (hi : i ≠ 132) : mB ad B t q f i = B i := va_up_ne _ _ hi
theorem MOI_mB (h : MOI cs ad th pr KR M C) {t q : Int} {n : Nat} {M' : Nat → Nat → Int} (e : C' = mkR cs M' (mB ad C t q (n : Int))) (h1 : ∀ i, i < 25 → M' (16 + i) = M (16 + i)) (hW : WR M') : MOI cs ad t q (n, KR.2) M' C' ∧ (∀ i, i < 132 → C' i = C i) ∧ C' 137 = C 137 := by
  obtain ⟨_, ⟨⟨m1, m2, m3⟩, m4, m5⟩, ⟨k0, pm, Fq, q1, q2, q3, q4⟩, _⟩ := h
  have hf : ∀ i, i < 138 ∨ 188 ≤ i → i ≠ 132 → C' i = C i := fun i hi hn => by rw [e, mkR_o hi, mB_o hn]
  refine ⟨⟨mkR_self e, ⟨⟨by rw [e, mkR_o (by omega)]; exact va_up_self _ _ _, (hf 133 (by omega) (by omega)).trans m2, (hf 134 (by omega) (by omega)).trans m3⟩, (hf 135 (by omega) (by omega)).trans m4, fun i hi => (h1 i hi).trans (m5 i hi)⟩, ⟨k0, pm, Fq, q1, q2, (hf 136 (by omega) (by omega)).trans q3, fun i hi => ?_⟩, hW⟩, fun i hi => hf i (by omega) (by omega), hf 137 (by omega) (by omega)⟩
  obtain ⟨G, g1, g2⟩ := q4 i hi
  exact ⟨G, (hf (188 + pm i) (by omega) (by omega)).trans g1, g2⟩
theorem LI_mk {ov : Nat → Int} (hc : CLI cs ad pr inv K Rg C) (hm : MOI cs ad th pr KR M C) (hr : RLI K KR Rg M pr) (ho : C 137 = aL cs 1 ov) : LIo cs ad th C ov := ⟨pr, inv, K, KR, Rg, M, hc, hm, hr, ho⟩
/-- what the class's part gives besides -/
theorem CLI_f (h : CLI cs ad pr inv K Rg C) : invP pr inv ∧ (∀ r, r < 16 → okp pr 25 (Rg r)) ∧ K.1 ≤ 24 ∧ (∀ i, i < K.1 → okp pr 25 (K.2.1 i)) ∧ C 122 = .inr (4, ffF ad) := by
  obtain ⟨G, ph, lo, hi, e, hc, hr⟩ := h
  refine ⟨hc.1.2.2, fun r hr2 => ?_, hc.2.2.1.1.2.2.2.1, hc.2.2.1.2.2, hc.2.1.1⟩
  rw [← hr r hr2]
  exact hc.2.2.2.2.2.1 r hr2
theorem MOI_f (h : MOI cs ad th pr KR M C) : C 132 = .inr (5, moF ad th pr ((KR.1 : Nat) : Int)) := h.2.1.1.1
theorem o_thrown {l : Launch} {D : va_G} {A : Nat → Prop} {T : Nat} (hT : 213 ≤ T) (h : LIt cs ad th C) : CR l y_Mo_thrown ws_Mo_thrown { frames := 0, cells := 0, slots := 0, locals := 0 } D cs A ad T [.ref (ad (132))] C (fun r C' => r = iI th ∧ C' = C) := by
  obtain ⟨ov, pr, inv, K, KR, Rg, M, hc, hm, hr, ho⟩ := h
  have := c_Mo_thrown (l := l) (D := D) (A := A) hT (M := M) hm.2.1.1
  rw [← hm.1] at this
  exact CR_of this rfl
/-- one call of both: what the class answers, the reference answers -/
def OPC (l : Launch) (y1 : MethodName) (ws1 : List Cond) (rm1 : Room) (k : Nat) (y2 : MethodName) (ws2 : List Cond) (rm2 : Room) (As : List Value) (cd : String → Int → Prop) (D : va_G) (cs : Nat → ClassId) (A : Nat → Prop) (ad : Nat → Nat) (T : Nat) (C : Nat → va_E) : Prop :=
  ∃ P px, FXi l y1 ws1 rm1 D cs A ad T (.ref (ad 122) :: As) C P px k ∧
    (∀ x C1, P x C1 → (∃ ov, C1 137 = aL cs 1 ov) ∧ (∃ fs, C1 132 = .inr (5, fs)) ∧ ∀ z, ∃ R, CR l y2 ws2 rm2 D cs A ad T (.ref (ad 132) :: As) (va_up C1 137 (aL cs 1 z)) R ∧ ∀ y C2, R y C2 → LIo cs ad 0 C2 z ∧ y = x) ∧
    (∀ E C1, px E C1 → ∃ k, cd E k ∧ (∃ fs, C1 132 = .inr (5, fs)) ∧ ∃ R, CR l y2 ws2 rm2 D cs A ad T (.ref (ad 132) :: As) C1 R ∧ ∀ y C2, R y C2 → LIt cs ad k C2)
theorem stg (hm : MOI cs ad th pr KR M C) (hf : ∀ i, 132 ≤ i → C' i = C i) (z : Nat → Int) : MOI cs ad th pr KR M (va_up C' 137 (aL cs 1 z)) := MOI_c hm (fun i h1 _ h3 => by rw [va_up_ne _ _ h3]; exact hf i h1)
theorem stgC (hc : CLI cs ad pr inv K Rg C') (z : Nat → Int) : CLI cs ad pr inv K Rg (va_up C' 137 (aL cs 1 z)) := CLI_c hc (fun i hi => va_up_ne _ _ (by omega))
/-- the reference's end with the class's state as it stands there -/
theorem endR {z : Nat → Int} (hc : CLI cs ad pr inv K Rg C) (hm : MOI cs ad th pr KR M C) (hz : C 137 = aL cs 1 z) (hl : 0 ≤ limF pr) (hk : KR.1 = K.1 ∧ ∀ i, i < K.1 → KR.2.1 i = K.2.1 i ∧ KR.2.2 i = K.2.2 i) {t : Int} {M' : Nat → Nat → Int} (hW : WR M') (e : C' = mkR cs M' (mB ad C t pr ((KR.1 : Nat) : Int))) (h1 : ∀ r, 16 ≤ r → r < 41 → M' r = M r) (hr' : ∀ r, r < 16 → M' r = Rg r) : LIo cs ad t C' z := by
  obtain ⟨a1, a2, a3⟩ := MOI_mB hm e (fun i hi => h1 (16 + i) (by omega) (by omega)) hW
  exact LI_mk (CLI_c hc a2) a1 ⟨hl, hr', hk⟩ (a3.trans hz)
theorem up_rel {M R : Nat → Nat → Int} {t : Nat} {F F' : Nat → Int} (h : ∀ r, r < 16 → R r = M r) (hF : F = F') : ∀ q, q < 16 → va_up M t F q = va_up R t F' q := fun q hq => by
  by_cases e : q = t
  · rw [e, va_up_self, va_up_self, hF]
  · rw [va_up_ne _ _ e, va_up_ne _ _ e, h q hq]
end LI2
