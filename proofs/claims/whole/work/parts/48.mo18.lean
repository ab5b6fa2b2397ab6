def AOI (U : State) : Prop := (Cond.arrayOver (.array .int)).before #[] U = true
/-- contracts with a word on the state besides the world -/
def PE (EV : State → Prop) (D : va_G) (cs : Nat → ClassId) (A : Nat → Prop) (ad : Nat → Nat) (T : Nat) (C : Nat → va_E) (U : State) : Prop := PW D cs A ad T C U ∧ EV U
def CiE (l : Launch) (y : MethodName) (ws : List Cond) (rm : Room) (EV : State → Prop) (D : va_G) (cs : Nat → ClassId) (A : Nat → Prop) (ad : Nat → Nat) (T : Nat) (av : List Value) (C : Nat → va_E) (post : Int32 → (Nat → va_E) → Prop) : Prop :=
  Met l y ws rm (va_Pc av (PE EV D cs A ad T C)) (va_Qi post (QW D cs ad T) A) 0 0 A
theorem w_bodyIE {l : Launch} {D : va_G} {cs : Nat → ClassId} {A : Nat → Prop} {ad : Nat → Nat} {T : Nat} {C : Nat → va_E} {EV : State → Prop} {y : MethodName} {bytes : ByteArray} {maxL : Nat} {ret : Option FieldType} {rm : Room} {av : List Value} {post : Int32 → (Nat → va_E) → Prop} (hy : plainName y.cls = true) (hln : (lg_sl av).length ≤ maxL)
    (body : ∀ (p : Program) (e : Env) (s : State) (m : MethodId) (below : List Frame) (meth : Method) (c : Code), Cx p s m av.toArray c bytes y.cls → meth.sig.returnType = ret → meth.locks = false → c.maxLocals = maxL → EV s → Wd D cs A ad T s C s.heap [] → ∀ ls : Array Slot, lv_has ls maxL (lv_args 0 av) →
      W p l e rm s m av.toArray below meth c s.heap [] 0 0 (MQ below (va_Qi post (QW D cs ad T) A) av.toArray s 0 0 A) (F0 m 0 ls [])) : CiE l y (Cond.code y bytes maxL ret :: TB) rm EV D cs A ad T av C post := by
  refine Met.ofW (cc := bytes) (maxL := maxL) (ret := ret) hy rfl ?_
  intro p e s m args below meth c s₁ B hml hv
  obtain ⟨rfl, ⟨hK, hd, hA, hP⟩, hEV⟩ := hv
  have hl := lv_entry av (n := maxL) hln
  rw [lg_entry_eq]
  exact body p e s m below meth c ⟨B.exec, B.bytes, findClass_of_methodNamed B.named, fun w hw => atoms_spec (ws := Cond.code y bytes maxL ret :: TB) B.pre w (List.mem_cons_of_mem _ hw)⟩ B.returns B.notSynchronized hml hEV ⟨hK, hd, hA, hP, va_S.rf⟩ _ hl
theorem eqV.any {cs : Nat → ClassId} {ad : Nat → Nat} {n : Nat} {pm : Nat → Nat} {F : Nat → Nat → Int} {B : Nat → va_E} (h : eqV cs ad n pm F B) (k : Nat) : ∃ F', eqV cs ad k pm F' B := by
  obtain ⟨h1, h2, h3, h4⟩ := h
  have h5 : ∀ i : Nat, ∃ G : Nat → Int, i < 25 → B (188 + pm i) = aI cs 26 G := fun i => by
    by_cases hi : i < 25
    · obtain ⟨G, hG, -⟩ := h4 i hi
      exact ⟨G, fun _ => hG⟩
    · exact ⟨fun _ => 0, fun h => absurd h hi⟩
  exact ⟨fun i => Classical.choose (h5 i), h1, h2, h3, fun i hi => ⟨Classical.choose (h5 i), Classical.choose_spec (h5 i) hi, fun _ _ _ => rfl⟩⟩
section MIH
variable {p : Program} {l : Launch} {e : Env} {s : State} {m : MethodId} {args : Array Value} {below : List Frame} {meth : Method} {c : Code} {H : Heap} {locs : List Loc} {Q : State → Prop} {D : va_G} {cs : Nat → ClassId} {A : Nat → Prop} {ad : Nat → Nat} {T : Nat} {B : Nat → va_E} {th pr fc : Int}
variable {M : Nat → Nat → Int} {inv : Nat → Int} {t : Int} {n : Nat} {Fs : Nat → Nat → Int}
theorem l_inv_216 {post : Int32 → (Nat → va_E) → Prop} (X : Cx p s m args c b_Mo_inverse RMo) (hr : meth.sig.returnType = some .int) (hlk : meth.locks = false) (hml : c.maxLocals = 12) (hT : 213 ≤ T) (hn : n ≤ 24) (hover : AOI s) (hI : invP pr inv)
    (hp0 : ∀ (pm : Nat → Nat) (F : Nat → Nat → Int) (B1 : Nat → va_E), gauR pr inv n n 0 Fs = none → moO cs ad 3 pr fc B1 → eqV cs ad n pm F B1 → (∀ q, q ≠ 132 → q ≠ 136 → q < 188 ∨ 213 ≤ q → B1 q = B q) → post (iI 0) (mkR cs M B1))
    (K : ∀ (pm : Nat → Nat) (F : Nat → Nat → Int) (B1 : Nat → va_E) (H : Heap) (locs : List Loc) (ls : Array Slot), Wd D cs A ad T s (mkR cs M B1) H locs → gauR pr inv n n 0 Fs = some F → okE pr n F → moO cs ad 0 pr fc B1 → eqV cs ad n pm F B1 → (∀ q, q ≠ 132 → q ≠ 136 → q < 188 ∨ 213 ≤ q → B1 q = B q) → lv_has ls 12 [(0, .ref (ad (132))), (1, .int (iI (t))), (4, .int (iI (n)))] → W p l e { frames := 2, cells := 0, slots := 0, locals := 49 } s m args below meth c H locs 0 0 (MQ below (va_Qi post (QW D cs ad T) A) args s 0 0 A) (F0 m 445 ls [])) :
    ∀ (f k : Nat) (pm : Nat → Nat) (F : Nat → Nat → Int) (B1 : Nat → va_E) (H : Heap) (locs : List Loc) (ls : Array Slot), k + f = n → Wd D cs A ad T s (mkR cs M B1) H locs → gauR pr inv n f k F = gauR pr inv n n 0 Fs → okE pr n F → moO cs ad 0 pr fc B1 → eqV cs ad n pm F B1 → (∀ q, q ≠ 132 → q ≠ 136 → q < 188 ∨ 213 ≤ q → B1 q = B q) → lv_has ls 12 [(0, .ref (ad (132))), (1, .int (iI (t))), (4, .int (iI (n))), (5, .int (iI (k)))] → W p l e { frames := 2, cells := 0, slots := 0, locals := 49 } s m args below meth c H locs 0 0 (MQ below (va_Qi post (QW D cs ad T) A) args s 0 0 A) (F0 m 216 ls []) := by
  have hpr := hI.1
  intro f
  induction f with
  | zero =>
    intro k pm F B1 H locs ls h1 w hz hF hB hE hQ hl
    have hz : some F = gauR pr inv n n 0 Fs := hz
    refine lv_iload X.1 X.2.1 d_Mo_inverse_216 (lv_at hl 3 rfl) ?_
    refine lv_iload X.1 X.2.1 d_Mo_inverse_218 (lv_at hl 2 rfl) ?_
    refine i_ge (a := k) (b := n) (tgt := 445) X (by omega) (by omega) d_Mo_inverse_220 (by decide) (fun h_220 => ?_) (fun h_220 => ?_)
    · exact K pm F B1 H locs ls w hz.symm hF hB hE hQ (lv_sub hl [0, 1, 2] rfl)
    · exact absurd h_220 (by omega)
  | succ f ih =>
    intro k pm F B1 H locs ls h1 w hz hF hB hE hQ hl
    have hz : (if pivR F k (n - k) k = n then none else gauR pr inv n f (k + 1) (gauS pr inv n k F)) = gauR pr inv n n 0 Fs := hz
    have hps := pivR_sp F k (n - k) k
    refine lv_iload X.1 X.2.1 d_Mo_inverse_216 (lv_at hl 3 rfl) ?_
    refine lv_iload X.1 X.2.1 d_Mo_inverse_218 (lv_at hl 2 rfl) ?_
    refine i_ge (a := k) (b := n) (tgt := 445) X (by omega) (by omega) d_Mo_inverse_220 (by decide) (fun h_220 => ?_) (fun h_220 => ?_)
    · exact absurd h_220 (by omega)
    · refine lv_iload X.1 X.2.1 d_Mo_inverse_223 (lv_at hl 3 rfl) ?_
      refine lv_istore (lv' := [(6, .int (iI (k))), (0, .ref (ad (132))), (1, .int (iI (t))), (4, .int (iI (n))), (5, .int (iI (k)))]) X.1 X.2.1 d_Mo_inverse_225 hl (by decide) rfl (fun ls hl => ?_)
      refine l_inv_227 (M := M) (B := B1) (n := n) (t := t) (pm := pm) X hml hT hn hB hpr (k := k) (by omega) (F := F) hE hF w (fun r ls hrp hl => ?_) (n - k) k ls (by omega) (Nat.le_refl _) rfl (lv_sub hl [1, 2, 3, 4, 0] rfl)
      have hB0 := hB
      rw [← hrp] at hps
      refine lv_aload_n X.1 X.2.1 d_Mo_inverse_253 rfl (lv_at hl 0 rfl) ?_
      refine lv_iconst (v := iI (3)) X.1 X.2.1 d_Mo_inverse_254 (by decide) ?_
      refine lv_iload X.1 X.2.1 d_Mo_inverse_255 (lv_at hl 4 rfl) ?_
      refine lv_iload X.1 X.2.1 d_Mo_inverse_257 (lv_at hl 2 rfl) ?_
      refine i_ne (a := r) (b := n) (tgt := 266) X (by omega) (by omega) d_Mo_inverse_259 (by decide) (fun h_259 => ?_) (fun h_259 => ?_)
      · refine lv_iconst (v := iI (0)) X.1 X.2.1 d_Mo_inverse_266 (by decide) ?_
        refine w_cVi (n := 2) (i := 132) (ci := 5) (As := [.int (iI (3)), .int (iI (0))]) (rest := []) X w hml hl.1 (c_Mo_refuse hT (M := M) (B := B1) hB (k := 3) (b := 0) (by omega)) (by omega) (by rw [mkR_B (by decide)]; exact hB.1) rfl k_m_Mo_61 k_im_Mo_refuse k_se_Mo_refuse k_i_Mo k_co_Mo_refuse (by decide +kernel) rfl ⟨Nat.le_of_ble_eq_true rfl, Nat.le_of_ble_eq_true rfl⟩ ⟨rfl, rfl⟩ ⟨Nat.zero_le _, Nat.zero_le _⟩ rfl (Nat.le_of_ble_eq_true rfl) d_Mo_inverse_267 (fun r' C' H locs hp w => ?_)
        obtain ⟨rfl, rfl⟩ := hp
        rw [if_pos (show (0 : Int) = 0 from rfl), mB_id hB] at w
        refine z_eq (a := 0) (tgt := 275) X (by omega) d_Mo_inverse_270 (by decide) (fun h_270 => ?_) (fun h_270 => ?_)
        · refine lv_aload_n X.1 X.2.1 d_Mo_inverse_275 rfl (lv_at hl 0 rfl) ?_
          refine m_get X hT w hB 15 (by decide) k_f_Mo_58 rfl d_Mo_inverse_276 ?_
          refine lv_iload X.1 X.2.1 d_Mo_inverse_279 (lv_at hl 4 rfl) ?_
          refine e_row (z := r) X hT w hE (r) (by omega) (by omega) d_Mo_inverse_281 ?_
          refine lv_astore (lv' := [(7, .ref (ad (188 + pm r))), (0, .ref (ad (132))), (1, .int (iI (t))), (4, .int (iI (n))), (5, .int (iI (k))), (6, .int (iI (r)))]) X.1 X.2.1 d_Mo_inverse_282 hl (by decide) rfl (fun ls hl => ?_)
          refine lv_aload_n X.1 X.2.1 d_Mo_inverse_284 rfl (lv_at hl 1 rfl) ?_
          refine m_get X hT w hB 15 (by decide) k_f_Mo_58 rfl d_Mo_inverse_285 ?_
          refine lv_iload X.1 X.2.1 d_Mo_inverse_288 (lv_at hl 5 rfl) ?_
          refine lv_aload_n X.1 X.2.1 d_Mo_inverse_290 rfl (lv_at hl 1 rfl) ?_
          refine m_get X hT w hB 15 (by decide) k_f_Mo_58 rfl d_Mo_inverse_291 ?_
          refine lv_iload X.1 X.2.1 d_Mo_inverse_294 (lv_at hl 4 rfl) ?_
          refine e_row (z := k) X hT w hE (k) (by omega) (by omega) d_Mo_inverse_296 ?_
          obtain ⟨G1, hG1, -⟩ := hE.2.2.2 k (by omega)
          have pk9 := hE.1 k (by omega)
          have pr9 := hE.1 r (by omega)
          refine m_eas (i := 136) (v := 188 + pm k) (n := 25) (n2 := 26) (pl := fun i => 188 + pm i) (G := G1) (z := r) X hover w (by omega) (by rw [mkR_B (by decide)]; exact hE.2.2.1) (by omega) (by rw [mkR_B (by omega)]; exact hG1) r rfl (by omega) (by decide) d_Mo_inverse_297 (fun H locs w => ?_)
          rw [mkR_sB (by decide)] at w
          have hB := hB.up (show 135 ≤ 136 by decide) (aG cs ad 25 (va_up (fun i => 188 + pm i) r (188 + pm k)))
          refine lv_aload_n X.1 X.2.1 d_Mo_inverse_298 rfl (lv_at hl 1 rfl) ?_
          refine m_get X hT w hB 15 (by decide) k_f_Mo_58 rfl d_Mo_inverse_299 ?_
          refine lv_iload X.1 X.2.1 d_Mo_inverse_302 (lv_at hl 4 rfl) ?_
          refine lv_aload X.1 X.2.1 d_Mo_inverse_304 (lv_at hl 0 rfl) ?_
          obtain ⟨G2, hG2, -⟩ := hE.2.2.2 r (by omega)
          refine m_eas (i := 136) (v := 188 + pm r) (n := 25) (n2 := 26) (pl := va_up (fun i => 188 + pm i) r (188 + pm k)) (G := G2) (z := k) X hover w (by omega) (by rw [mkR_B (by decide), va_up_self]) (by omega) (by rw [mkR_B (by omega), va_up_ne _ _ (by omega)]; exact hG2) k rfl (by omega) (by decide) d_Mo_inverse_306 (fun H locs w => ?_)
          rw [mkR_sB (by decide), va_uu] at w
          have hE2 := hE.swap (show r < n by omega) (show k < n by omega) hn
          have epl : va_up (va_up (fun i => 188 + pm i) r (188 + pm k)) k (188 + pm r) = fun i => 188 + va_up (va_up pm r (pm k)) k (pm r) i := by
            funext i
            unfold va_up
            split
            · rfl
            · split <;> rfl
          rw [epl] at w
          have hB := hB0.up (show 135 ≤ 136 by decide) (aG cs ad 25 (fun i => 188 + va_up (va_up pm r (pm k)) k (pm r) i))
          obtain ⟨B2, eB2⟩ : ∃ bb : Nat → va_E, bb = va_up B1 136 (aG cs ad 25 (fun i => 188 + va_up (va_up pm r (pm k)) k (pm r) i)) := ⟨_, rfl⟩
          rw [← eB2] at w hB hE2
          obtain ⟨pm2, epm⟩ : ∃ qq : Nat → Nat, qq = va_up (va_up pm r (pm k)) k (pm r) := ⟨_, rfl⟩
          rw [← epm] at hE2
          have hpk : pm2 k = pm r := by rw [epm, va_up_self]
          rw [← hpk] at hl
          obtain ⟨F2, eF2⟩ : ∃ ff : Nat → Nat → Int, ff = swpR F r k := ⟨_, rfl⟩
          rw [← eF2] at hE2
          have hE := hE2
          have hF2 : okE pr n F2 := by
            intro i j hi hj
            rw [eF2]
            unfold swpR
            by_cases e1 : i = k
            · rw [e1, va_up_self]; exact hF r j (by omega) hj
            · rw [va_up_ne _ _ e1]
              by_cases e2 : i = r
              · rw [e2, va_up_self]; exact hF k j (by omega) hj
              · rw [va_up_ne _ _ e2]; exact hF i j hi hj
          have hkk : F2 k k = F r k := by rw [eF2]; unfold swpR; rw [va_up_self]
          have hne : F r k ≠ 0 := hps.2.2 (by omega)
          have hrk := hF r k (by omega) (by omega)
          have hld : 1 ≤ F2 k k ∧ F2 k k < pr := by omega
          have hiv := hI.inv hld
          refine lv_aload_n X.1 X.2.1 d_Mo_inverse_307 rfl (lv_at hl 1 rfl) ?_
          refine lv_aload X.1 X.2.1 d_Mo_inverse_308 (lv_at hl 0 rfl) ?_
          refine lv_iload X.1 X.2.1 d_Mo_inverse_310 (lv_at hl 4 rfl) ?_
          refine e_ld (z := k) X hT w hE hn (k) (by omega) (k) (by omega) (by omega) d_Mo_inverse_312 ?_
          refine w_cVi (n := 1) (i := 132) (ci := 5) (As := [.int (iI (F2 k k))]) (rest := []) X w hml hl.1 (c_Mo_under hT (M := M) (B := B2) hB (v := F2 k k) (iv := inv (F2 k k).toNat) hpr hld hiv) (by omega) (by rw [mkR_B (by decide)]; exact hB.1) rfl k_m_Mo_88 k_im_Mo_under k_se_Mo_under k_i_Mo k_co_Mo_under (by decide +kernel) rfl ⟨Nat.le_of_ble_eq_true rfl, Nat.le_of_ble_eq_true rfl⟩ ⟨rfl, rfl⟩ ⟨Nat.zero_le _, Nat.zero_le _⟩ rfl (Nat.le_of_ble_eq_true rfl) d_Mo_inverse_313 (fun r' C' H locs hp w => ?_)
          obtain ⟨rfl, rfl⟩ := hp
          refine lv_istore (lv' := [(8, .int (iI (inv (F2 k k).toNat))), (7, .ref (ad (188 + pm2 k))), (0, .ref (ad (132))), (1, .int (iI (t))), (4, .int (iI (n))), (5, .int (iI (k))), (6, .int (iI (r)))]) X.1 X.2.1 d_Mo_inverse_316 hl (by decide) rfl (fun ls hl => ?_)
          refine lv_iconst (v := iI (0)) X.1 X.2.1 d_Mo_inverse_318 (by decide) ?_
          refine lv_istore (lv' := [(9, .int (iI (0))), (8, .int (iI (inv (F2 k k).toNat))), (7, .ref (ad (188 + pm2 k))), (0, .ref (ad (132))), (1, .int (iI (t))), (4, .int (iI (n))), (5, .int (iI (k))), (6, .int (iI (r)))]) X.1 X.2.1 d_Mo_inverse_319 hl (by decide) rfl (fun ls hl => ?_)
          refine l_inv_321 (M := M) (B := B2) (n := n) (t := t) (pm := pm2) X hml hT hn hpr (k := k) (by omega) (u := inv (F2 k k).toNat) (by omega) (Fa := F2) hF2 (fun F3 B3 H locs ls w gB gE gQ gF hl => ?_) (n + 1) 0 F2 B2 H locs ls (by omega) w hB hE (fun _ _ => rfl) (fun i j hi hj => by rw [if_neg (by omega)]) (lv_sub hl [3, 4, 5, 6, 2, 1, 0] rfl)
          have hB := gB
          have hE := gE
          have hF3 : okE pr n F3 := by
            intro i j hi hj
            rw [gF i j hi hj]
            split
            · exact ⟨Int.emod_nonneg _ (by omega), Int.emod_lt_of_pos _ (by omega)⟩
            · exact hF2 i j hi hj
          refine lv_iconst (v := iI (0)) X.1 X.2.1 d_Mo_inverse_352 (by decide) ?_
          refine lv_istore (lv' := [(9, .int (iI (0))), (0, .ref (ad (132))), (1, .int (iI (t))), (4, .int (iI (n))), (5, .int (iI (k))), (7, .ref (ad (188 + pm2 k)))]) X.1 X.2.1 d_Mo_inverse_353 hl (by decide) rfl (fun ls hl => ?_)
          refine l_inv_355 (M := M) (B := B3) (n := n) (t := t) (pm := pm2) X hml hT hn hpr (k := k) (by omega) (Fa := F3) hF3 (fun F4 B4 H locs ls w jB jE jQ jF hl => ?_) n 0 F3 B3 H locs ls (by omega) w gB gE (fun _ _ => rfl) (fun i j hi hj => by rw [if_neg (by omega)]) (lv_sub hl [1, 2, 3, 4, 5, 0] rfl)
          refine i_inc (k := 3) (x := k) (lv' := [(5, .int (iI (k + 1))), (0, .ref (ad (132))), (1, .int (iI (t))), (4, .int (iI (n)))]) X d_Mo_inverse_439 hl rfl (by decide) rfl (fun ls hl => ?_)
          refine lv_goto (tgt := 216) X.1 X.2.1 d_Mo_inverse_442 (by decide) ?_
          have hgs : eqV cs ad n pm2 (gauS pr inv n k F) B4 := by
            refine jE.ext (fun i j hi hj => ?_)
            rw [jF i j hi hj]
            unfold gauS
            rw [← hrp, ← eF2]
            unfold elmR
            by_cases e1 : i = k
            · rw [if_pos e1, if_pos e1, gF k j (by omega) hj, if_pos rfl]; unfold scaR; rw [va_up_self]
            · rw [if_neg e1, if_neg e1]
              show (F3 i j - F3 i k * F3 k j) % pr = (scaR pr inv k F2 i j - scaR pr inv k F2 i k * scaR pr inv k F2 k j) % pr
              rw [gF i j hi hj, gF i k hi (by omega), gF k j (by omega) hj, if_neg e1, if_neg e1, if_pos rfl]
              unfold scaR
              rw [va_up_ne _ _ e1, va_up_self]
          rw [if_neg (by omega)] at hz
          exact ih (k + 1) pm2 (gauS pr inv n k F) B4 H locs ls (by omega) w hz (gauS_ok (by omega) hF (by omega) (by omega)) jB hgs (fun q h1 h2 h3 => by rw [jQ q h3, gQ q h3, eB2, va_up_ne _ _ h2]; exact hQ q h1 h2 h3) (lv_sub hl [1, 2, 3, 0] rfl)
        · exact absurd h_270 (by omega)
      · refine lv_iconst (v := iI (1)) X.1 X.2.1 d_Mo_inverse_262 (by decide) ?_
        refine lv_goto (tgt := 267) X.1 X.2.1 d_Mo_inverse_263 (by decide) ?_
        refine w_cVi (n := 2) (i := 132) (ci := 5) (As := [.int (iI (3)), .int (iI (1))]) (rest := []) X w hml hl.1 (c_Mo_refuse hT (M := M) (B := B1) hB (k := 3) (b := 1) (by omega)) (by omega) (by rw [mkR_B (by decide)]; exact hB.1) rfl k_m_Mo_61 k_im_Mo_refuse k_se_Mo_refuse k_i_Mo k_co_Mo_refuse (by decide +kernel) rfl ⟨Nat.le_of_ble_eq_true rfl, Nat.le_of_ble_eq_true rfl⟩ ⟨rfl, rfl⟩ ⟨Nat.zero_le _, Nat.zero_le _⟩ rfl (Nat.le_of_ble_eq_true rfl) d_Mo_inverse_267 (fun r' C' H locs hp w => ?_)
        obtain ⟨rfl, rfl⟩ := hp
        rw [if_neg (show ¬ (1 : Int) = 0 by decide)] at w
        refine z_eq (a := 1) (tgt := 275) X (by omega) d_Mo_inverse_270 (by decide) (fun h_270 => ?_) (fun h_270 => ?_)
        · exact absurd h_270 (by omega)
        · refine lv_iconst (v := iI (0)) X.1 X.2.1 d_Mo_inverse_273 (by decide) ?_
          rw [if_pos (by omega)] at hz
          exact w_iret X hr hlk w (hp0 pm F (mB ad B1 3 pr fc) hz.symm (hB.set 3 pr fc) (hE.other (by decide)) (fun q h1 h2 h3 => by show va_up B1 132 _ q = B q; rw [va_up_ne _ _ h1]; exact hQ q h1 h2 h3)) d_Mo_inverse_274
theorem l_inv_457 (X : Cx p s m args c b_Mo_inverse RMo) (hml : c.maxLocals = 12) (hT : 213 ≤ T) (hn : n ≤ 24) (hB : moO cs ad th pr fc B) {pm : Nat → Nat} {F : Nat → Nat → Int} (hE : eqV cs ad n pm F B) (ht : 0 ≤ t ∧ t ≤ 15)
    (K : ∀ (M1 : Nat → Nat → Int) (H : Heap) (locs : List Loc) (ls : Array Slot), Wd D cs A ad T s (mkR cs M1 B) H locs → (M1 t.toNat = fun x => if x < n then F x n else 0) → (∀ r, r ≠ t.toNat → M1 r = M r) → lv_has ls 12 [(0, .ref (ad (132))), (1, .int (iI (t)))] → W p l e { frames := 2, cells := 0, slots := 0, locals := 49 } s m args below meth c H locs 0 0 Q (F0 m 489 ls [])) :
    ∀ (f k : Nat) (M1 : Nat → Nat → Int) (H : Heap) (locs : List Loc) (ls : Array Slot), k + f = n → Wd D cs A ad T s (mkR cs M1 B) H locs → (M1 t.toNat = fun x => if x < k then F x n else 0) → (∀ r, r ≠ t.toNat → M1 r = M r) → lv_has ls 12 [(0, .ref (ad (132))), (1, .int (iI (t))), (4, .int (iI (n))), (5, .int (iI (k)))] → W p l e { frames := 2, cells := 0, slots := 0, locals := 49 } s m args below meth c H locs 0 0 Q (F0 m 457 ls []) := by
  intro f
  induction f with
  | zero =>
    intro k M1 H locs ls h1 w h2 h3 hl
    have e9 : k = n := by omega
    subst e9
    refine lv_iload X.1 X.2.1 d_Mo_inverse_457 (lv_at hl 3 rfl) ?_
    refine lv_iload X.1 X.2.1 d_Mo_inverse_459 (lv_at hl 2 rfl) ?_
    refine i_ge (a := k) (b := k) (tgt := 489) X (by omega) (by omega) d_Mo_inverse_461 (by decide) (fun h_461 => ?_) (fun h_461 => ?_)
    · exact K M1 H locs ls w h2 h3 (lv_sub hl [0, 1] rfl)
    · exact absurd h_461 (by omega)
  | succ f ih =>
    intro k M1 H locs ls h1 w h2 h3 hl
    refine lv_iload X.1 X.2.1 d_Mo_inverse_457 (lv_at hl 3 rfl) ?_
    refine lv_iload X.1 X.2.1 d_Mo_inverse_459 (lv_at hl 2 rfl) ?_
    refine i_ge (a := k) (b := n) (tgt := 489) X (by omega) (by omega) d_Mo_inverse_461 (by decide) (fun h_461 => ?_) (fun h_461 => ?_)
    · exact absurd h_461 (by omega)
    · refine lv_aload_n X.1 X.2.1 d_Mo_inverse_464 rfl (lv_at hl 0 rfl) ?_
      refine m_get X hT w hB 2 (by decide) k_f_Mo_18 rfl d_Mo_inverse_465 ?_
      refine lv_iload_n X.1 X.2.1 d_Mo_inverse_468 rfl (lv_at hl 1 rfl) ?_
      refine m_aal (i := 133) (n := 16) (pl := fun i => 138 + i) (z := t) X w (by omega) (by rw [mkR_B (by decide)]; exact hB.2.1) (t.toNat) (by omega) (by omega) (by decide) d_Mo_inverse_469 ?_
      refine lv_iload X.1 X.2.1 d_Mo_inverse_470 (lv_at hl 3 rfl) ?_
      refine lv_aload_n X.1 X.2.1 d_Mo_inverse_472 rfl (lv_at hl 0 rfl) ?_
      refine m_get X hT w hB 15 (by decide) k_f_Mo_58 rfl d_Mo_inverse_473 ?_
      refine lv_iload X.1 X.2.1 d_Mo_inverse_476 (lv_at hl 3 rfl) ?_
      refine e_row (z := k) X hT w hE (k) (by omega) (by omega) d_Mo_inverse_478 ?_
      refine lv_iload X.1 X.2.1 d_Mo_inverse_479 (lv_at hl 2 rfl) ?_
      refine e_ld (z := n) X hT w hE hn (k) (by omega) (n) (by omega) (by omega) d_Mo_inverse_481 ?_
      refine m_st (r := t.toNat) (z := k) (v := F k n) X hT w (by omega) (k) (by omega) (by omega) d_Mo_inverse_482 (fun H locs w => ?_)
      obtain ⟨Mw1, eMw1⟩ : ∃ mm : Nat → Nat → Int, mm = va_up M1 t.toNat (va_up (M1 t.toNat) k (F k n)) := ⟨_, rfl⟩
      rw [← eMw1] at w
      refine i_inc (k := 3) (x := k) (lv' := [(5, .int (iI (k + 1))), (0, .ref (ad (132))), (1, .int (iI (t))), (4, .int (iI (n)))]) X d_Mo_inverse_483 hl rfl (by decide) rfl (fun ls hl => ?_)
      refine lv_goto (tgt := 457) X.1 X.2.1 d_Mo_inverse_486 (by decide) ?_
      refine ih (k + 1) Mw1 H locs ls (by omega) w ?_ (fun r h => by rw [eMw1, va_up_ne _ _ h]; exact h3 r h) (lv_sub hl [1, 2, 3, 0] rfl)
      rw [eMw1, va_up_self]
      funext x
      by_cases e9 : x = k
      · rw [e9, va_up_self]; show _ = if k < k + 1 then F k n else 0; rw [if_pos (by omega)]
      · rw [va_up_ne _ _ e9, h2]
        show (if x < k then F x n else 0) = if x < k + 1 then F x n else 0
        split <;> split <;> first | rfl | (exfalso; omega)
end MIH
