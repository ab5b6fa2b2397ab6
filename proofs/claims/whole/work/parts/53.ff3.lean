section FXR
variable {p : Program} {l : Launch} {e : Env} {R : Room} {s : State} {m : MethodId} {args : Array Value} {below : List Frame} {meth : Method} {c : Code} {H : Heap} {locs : List Loc} {cells slots : Nat} {Q : State → Prop}
variable {cc : ByteArray} {own : String} {pc : Nat} {ls : Array Slot} {rest st : List Value} {D : va_G} {cs : Nat → ClassId} {A : Nat → Prop} {ad : Nat → Nat} {T : Nat} {C : Nat → va_E} {px : String → (Nat → va_E) → Prop} {k : Nat} {XC : String → State → State → Prop}
theorem x_vret {post : (Nat → va_E) → Prop} (X : Cx p s m args c cc own) (hr : meth.sig.returnType = none) (hlk : meth.locks = false) (w : Wd D cs A ad T s C H locs) (hp : post C) (hdg : decode cc pc = .ok (.return_, 1)) (h1 : cells ≤ k) (h2 : slots ≤ 6 * k) : W p l e R s m args below meth c H locs cells slots (vx_MQ below (va_Qv post (QW D cs ad T) A) XC args s k (6 * k) A) (F0 m pc ls []) :=
  W.widen h1 h2 (vx_ret (W.vret X.1 X.2.1 hr (fun t ht hW => ⟨⟨C, rfl, hp, va_K.moved hW.alike w.1, by rw [ht]; exact w.2.2.2.1⟩, w.2.2.2.2.F ht⟩) w.2.2.2.2.2.2 hdg hlk))
theorem x_iret {post : Int32 → (Nat → va_E) → Prop} {v : Int32} (X : Cx p s m args c cc own) (hr : meth.sig.returnType = some .int) (hlk : meth.locks = false) (w : Wd D cs A ad T s C H locs) (hp : post v C) (hdg : decode cc pc = .ok (.ireturn, 1)) (h1 : cells ≤ k) (h2 : slots ≤ 6 * k) : W p l e R s m args below meth c H locs cells slots (vx_MQ below (va_Qi post (QW D cs ad T) A) XC args s k (6 * k) A) (F0 m pc ls [.int v]) :=
  W.widen h1 h2 (vx_ret (W.iret X.1 X.2.1 hr (fun t ht hW => ⟨⟨v, C, rfl, hp, va_K.moved hW.alike w.1, by rw [ht]; exact w.2.2.2.1⟩, w.2.2.2.2.F ht⟩) w.2.2.2.2.2.2 hdg hlk))
theorem x_zret {post : Int32 → (Nat → va_E) → Prop} {v : Int32} (X : Cx p s m args c cc own) (hr : meth.sig.returnType = some .boolean) (hn : narrow .boolean (.int v) = .int v) (hlk : meth.locks = false) (w : Wd D cs A ad T s C H locs) (hp : post v C) (hdg : decode cc pc = .ok (.ireturn, 1)) (h1 : cells ≤ k) (h2 : slots ≤ 6 * k) : W p l e R s m args below meth c H locs cells slots (vx_MQ below (va_Qi post (QW D cs ad T) A) XC args s k (6 * k) A) (F0 m pc ls [.int v]) :=
  W.widen h1 h2 (vx_ret (W.zret X.1 X.2.1 hr hn (fun t ht hW => ⟨⟨v, C, rfl, hp, va_K.moved hW.alike w.1, by rw [ht]; exact w.2.2.2.1⟩, w.2.2.2.2.F ht⟩) w.2.2.2.2.2.2 hdg hlk))
theorem x_aret {post : Nat → (Nat → va_E) → Prop} {v : Nat} {n : String} (X : Cx p s m args c cc own) (hr : meth.sig.returnType = some (.object n)) (hlk : meth.locks = false) (w : Wd D cs A ad T s C H locs) (hp : post v C) (hdg : decode cc pc = .ok (.areturn, 1)) (h1 : cells ≤ k) (h2 : slots ≤ 6 * k) : W p l e R s m args below meth c H locs cells slots (vx_MQ below (va_Qr (fun _ => True) (fun u a t => post a u ∧ QW D cs ad T u t) A) XC args s k (6 * k) A) (F0 m pc ls [.ref v]) :=
  W.widen h1 h2 (vx_ret (W.aret X.1 X.2.1 hr (Or.inl ⟨n, rfl⟩) (Or.inr ⟨v, rfl⟩) (fun t ht hW => ⟨⟨C, v, rfl, trivial, hp, va_K.moved hW.alike w.1, by rw [ht]; exact w.2.2.2.1⟩, w.2.2.2.2.F ht⟩) w.2.2.2.2.2.2 hdg hlk))
theorem XP.of (w : Wd D cs A ad T s C H locs) {E : String} (hp : px E C) {t : State} (ha : s.vm.Alike t.vm) (h1 : H.size ≤ t.heap.size) (h2 : ∀ q : Nat, q < H.size → t.heap[q]? = H[q]?) : XP px D cs A ad T E s t :=
  ⟨(E, C), hp, ⟨rfl, va_K.moved ha w.1, vaP_kept w.2.2.2.1 h2⟩, Nat.le_trans w.2.2.2.2.1 h1, fun q h3 h4 => by rw [h2 q (Nat.lt_of_lt_of_le h3 w.2.2.2.2.1)]; exact w.2.2.2.2.2.1 q h3 h4⟩
theorem x_words {L : List Cond} (X : Cx p s m args c cc own) (ev : EV A s) (h1 : ∀ w ∈ L.filter goodWord, w ∈ lw_tbl) (h2 : ∀ w ∈ L.filter (fun w => !goodWord w), w ∈ lw_tbl ∧ w.faceAtom = true) : ∀ w ∈ L, w.before args s = true :=
  vx_hat (B := L.filter (fun w => !goodWord w)) (fun w hw => X.2.2.2 w (List.mem_filter.mpr ⟨h1 w hw, (List.mem_filter.mp hw).2⟩)) (fun _ h => h) (fun w hw => fa_moved (Vm.Alike.refl s.vm) (h2 w hw).2 (ev.1 w (fa_in (h2 w hw).1 (h2 w hw).2)) (face_ot (h2 w hw).2))
theorem x_thrIAE {Qc : Array Value → State → Outcome → State → Prop} {is k0 : Nat} {text : String} (X : Cx p s m args c cc RFf) (hl : l.stackTraces = false) (ev : EV A s) (hs : (is, text) ∈ strs) (hk : Cond.classLink RFf 52 "java/lang/IllegalArgumentException" ∈ TB) (hi : Cond.initialized "java/lang/IllegalArgumentException" ∈ TB) (w : Wd D cs A ad T s C H locs) (hp : px "java/lang/IllegalArgumentException" C) (hml : c.maxLocals = k0) (hsz : ls.size = k0) (hnx : ∀ x ∈ c.exceptionTable.toList, False) (hlk : meth.locks = false)
    (d0 : decode cc pc = .ok (.new 52, 3)) (d3 : decode cc (pc + 3) = .ok (.dup, 1)) (d4 : decode cc (pc + 4) = .ok (.ldc is, 2)) (d6 : decode cc (pc + 6) = .ok (.invokespecial 56, 3)) (d9 : decode cc (pc + 9) = .ok (.athrow, 1))
    (hRf : 5 < R.frames) (hRl : (rest.map fun v => v.category).sum + 82 ≤ R.locals) (hRc : cells + 1 ≤ R.cells) (hRs : slots + 6 ≤ R.slots) (h1 : cells + 1 ≤ k) (h2 : slots + 6 ≤ 6 * k) :
    W p l e R s m args below meth c H locs cells slots (vx_MQ below Qc (XP px D cs A ad T) args s k (6 * k) A) (F0 m pc ls rest) := by
  obtain ⟨sa, hsa⟩ := ev.2.2.2.1 _ hs
  exact vx_throwS (names := nmX) X.1 X.2.1 hl X.2.2.1 (by decide) (by decide) (X.2.2.2 _ hk) (X.2.2.2 _ hi) hsa (x_words X ev aIAE_g aIAE_n) aIAE_o ev.2.1 ev.2.2.1 w.2.2.2.2 (hsz.trans hml.symm) d0 d3 d4 d6 d9 (fun x hx => (hnx x hx).elim) hRf hRl hRc hRs hlk (fun t ha h3 h4 => XP.of w hp ha h3 h4) w.2.2.2.2.2.2 h1 h2
theorem x_thrARE {Qc : Array Value → State → Outcome → State → Prop} {is k0 : Nat} {text : String} (X : Cx p s m args c cc RFf) (hl : l.stackTraces = false) (ev : EV A s) (hs : (is, text) ∈ strs) (hk : Cond.classLink RFf 100 "java/lang/ArithmeticException" ∈ TB) (hi : Cond.initialized "java/lang/ArithmeticException" ∈ TB) (w : Wd D cs A ad T s C H locs) (hp : px "java/lang/ArithmeticException" C) (hml : c.maxLocals = k0) (hsz : ls.size = k0) (hnx : ∀ x ∈ c.exceptionTable.toList, False) (hlk : meth.locks = false)
    (d0 : decode cc pc = .ok (.new 100, 3)) (d3 : decode cc (pc + 3) = .ok (.dup, 1)) (d4 : decode cc (pc + 4) = .ok (.ldc is, 2)) (d6 : decode cc (pc + 6) = .ok (.invokespecial 104, 3)) (d9 : decode cc (pc + 9) = .ok (.athrow, 1))
    (hRf : 5 < R.frames) (hRl : (rest.map fun v => v.category).sum + 82 ≤ R.locals) (hRc : cells + 1 ≤ R.cells) (hRs : slots + 6 ≤ R.slots) (h1 : cells + 1 ≤ k) (h2 : slots + 6 ≤ 6 * k) :
    W p l e R s m args below meth c H locs cells slots (vx_MQ below Qc (XP px D cs A ad T) args s k (6 * k) A) (F0 m pc ls rest) := by
  obtain ⟨sa, hsa⟩ := ev.2.2.2.1 _ hs
  exact vx_throwS (names := nmX) X.1 X.2.1 hl X.2.2.1 (by decide) (by decide) (X.2.2.2 _ hk) (X.2.2.2 _ hi) hsa (x_words X ev aARE_g aARE_n) aARE_o ev.2.1 ev.2.2.1 w.2.2.2.2 (hsz.trans hml.symm) d0 d3 d4 d6 d9 (fun x hx => (hnx x hx).elim) hRf hRl hRc hRs hlk (fun t ha h3 h4 => XP.of w hp ha h3 h4) w.2.2.2.2.2.2 h1 h2
theorem x_thrISE {Qc : Array Value → State → Outcome → State → Prop} {is k0 : Nat} {text : String} (X : Cx p s m args c cc RFf) (hl : l.stackTraces = false) (ev : EV A s) (hs : (is, text) ∈ strs) (hk : Cond.classLink RFf 127 "java/lang/IllegalStateException" ∈ TB) (hi : Cond.initialized "java/lang/IllegalStateException" ∈ TB) (w : Wd D cs A ad T s C H locs) (hp : px "java/lang/IllegalStateException" C) (hml : c.maxLocals = k0) (hsz : ls.size = k0) (hnx : ∀ x ∈ c.exceptionTable.toList, False) (hlk : meth.locks = false)
    (d0 : decode cc pc = .ok (.new 127, 3)) (d3 : decode cc (pc + 3) = .ok (.dup, 1)) (d4 : decode cc (pc + 4) = .ok (.ldc is, 2)) (d6 : decode cc (pc + 6) = .ok (.invokespecial 131, 3)) (d9 : decode cc (pc + 9) = .ok (.athrow, 1))
    (hRf : 5 < R.frames) (hRl : (rest.map fun v => v.category).sum + 82 ≤ R.locals) (hRc : cells + 1 ≤ R.cells) (hRs : slots + 6 ≤ R.slots) (h1 : cells + 1 ≤ k) (h2 : slots + 6 ≤ 6 * k) :
    W p l e R s m args below meth c H locs cells slots (vx_MQ below Qc (XP px D cs A ad T) args s k (6 * k) A) (F0 m pc ls rest) := by
  obtain ⟨sa, hsa⟩ := ev.2.2.2.1 _ hs
  exact vx_throwS (names := nmX) X.1 X.2.1 hl X.2.2.1 (by decide) (by decide) (X.2.2.2 _ hk) (X.2.2.2 _ hi) hsa (x_words X ev aISE_g aISE_n) aISE_o ev.2.1 ev.2.2.1 w.2.2.2.2 (hsz.trans hml.symm) d0 d3 d4 d6 d9 (fun x hx => (hnx x hx).elim) hRf hRl hRc hRs hlk (fun t ha h3 h4 => XP.of w hp ha h3 h4) w.2.2.2.2.2.2 h1 h2
end FXR
section FXN
variable {p : Program} {l : Launch} {e : Env} {R : Room} {s : State} {m : MethodId} {args : Array Value} {below : List Frame} {meth : Method} {c : Code} {H : Heap} {locs : List Loc} {cells slots : Nat} {Q : State → Prop}
variable {cc : ByteArray} {own : String} {pc : Nat} {ls : Array Slot} {rest st : List Value} {D : va_G} {cs : Nat → ClassId} {A : Nat → Prop} {ad : Nat → Nat} {T : Nat} {C : Nat → va_E} {px : String → (Nat → va_E) → Prop} {k : Nat} {XC : String → State → State → Prop}
theorem x_thrNSE {Qc : Array Value → State → Outcome → State → Prop} {is k0 : Nat} {text : String} (X : Cx p s m args c cc RFf) (hl : l.stackTraces = false) (ev : EV A s) (hs : (is, text) ∈ strs) (hk : Cond.classLink RFf 151 "java/util/NoSuchElementException" ∈ TB) (hi : Cond.initialized "java/util/NoSuchElementException" ∈ TB) (w : Wd D cs A ad T s C H locs) (hp : px "java/util/NoSuchElementException" C) (hml : c.maxLocals = k0) (hsz : ls.size = k0) (hnx : ∀ x ∈ c.exceptionTable.toList, False) (hlk : meth.locks = false)
    (d0 : decode cc pc = .ok (.new 151, 3)) (d3 : decode cc (pc + 3) = .ok (.dup, 1)) (d4 : decode cc (pc + 4) = .ok (.ldc is, 2)) (d6 : decode cc (pc + 6) = .ok (.invokespecial 155, 3)) (d9 : decode cc (pc + 9) = .ok (.athrow, 1))
    (hRf : 5 < R.frames) (hRl : (rest.map fun v => v.category).sum + 82 ≤ R.locals) (hRc : cells + 1 ≤ R.cells) (hRs : slots + 6 ≤ R.slots) (h1 : cells + 1 ≤ k) (h2 : slots + 6 ≤ 6 * k) :
    W p l e R s m args below meth c H locs cells slots (vx_MQ below Qc (XP px D cs A ad T) args s k (6 * k) A) (F0 m pc ls rest) := by
  obtain ⟨sa, hstr⟩ := ev.2.2.2.1 _ hs
  have hat := x_words X ev aNSE_g aNSE_n
  intro T₀ hT Y₀
  have htr : e.platform.stackTraces = false := (show e.platform.stackTraces = l.stackTraces by rw [Y₀.admits.platform]).trans hl
  have Y := vx_rebase Y₀ (R' := { frames := R.frames, locals := R.locals, cells := 1, slots := 6 }) (Nat.le_refl _) (Nat.le_refl _) hRc hRs
  obtain ⟨s', hA⟩ : ∃ z, z = (T₀.setVm s.vm).setFrames (.invoking m args :: below) := ⟨_, rfl⟩
  rw [← hA] at Y
  have hvm : s'.vm = s.vm := by rw [hA]; rfl
  have hhp : s'.heap = H := by rw [hA]; exact hT
  have hW0 : s.WarmedH s'.vm := by rw [hvm]; exact State.WarmedH.refl s
  have hat' : ∀ w ∈ aNSE, w.before args s' = true := fun w hw => vx_ot_at hW0 hvm.symm (aNSE_o w (List.mem_cons_of_mem _ (List.mem_cons_of_mem _ hw))) (hat w hw)
  have hk' : (Cond.classLink RFf 151 "java/util/NoSuchElementException").before args s' = true := vx_ot_at hW0 hvm.symm (aNSE_o _ List.mem_cons_self) (X.2.2.2 _ hk)
  have hini' : (Cond.initialized "java/util/NoSuchElementException").before args s' = true := vx_ot_at hW0 hvm.symm (aNSE_o _ (List.mem_cons_of_mem _ List.mem_cons_self)) (X.2.2.2 _ hi)
  have hU' : vx_Zq Bundle.tN "UNASSIGNED_STACK" Bundle.steD A s' s'.heap := by rw [hhp]; exact vx_Zq.moved hW0.alike (ev.2.1.kept w.2.2.2.2.2.1)
  have hN' : vx_Zq Bundle.tN "SUPPRESSED_SENTINEL" Bundle.listD A s' s'.heap := by rw [hhp]; exact vx_Zq.moved hW0.alike (ev.2.2.1.kept w.2.2.2.2.2.1)
  have b1 : ∀ w ∈ Bundle.throwableAtoms, w.before args s' = true := vx_own (fun w hw => hat' w (List.mem_append_left _ hw)) (vx_isRefq hU'.1) (vx_isRefq hN'.1) hU'.2.word hN'.2.word
  have b2 : ∀ w ∈ Bundle.throwableSAtoms, w.before args s' = true := fun w hw => hat' w (List.mem_append_right _ (List.mem_append_left _ hw))
  have b3 : ∀ w ∈ Bundle.passSAtoms "java/util/NoSuchElementException" "java/lang/RuntimeException" 13 sixN, w.before args s' = true := fun w hw => hat' w (List.mem_append_right _ (List.mem_append_right _ (List.mem_append_left _ hw)))
  have b4 : ∀ w ∈ Bundle.chainSAtoms "java/lang/RuntimeException" ["java/lang/Exception"], w.before args s' = true := fun w hw => hat' w (List.mem_append_right _ (List.mem_append_right _ (List.mem_append_right _ (List.mem_append_left _ hw))))
  have b5 : ∀ w ∈ tlX RFf 155 "java/util/NoSuchElementException", w.before args s' = true := fun w hw => hat' w (List.mem_append_right _ (List.mem_append_right _ (List.mem_append_right _ (List.mem_append_right _ hw))))
  have hown' : s'.vm.findClass RFf = some m.cls := by rw [hvm]; exact X.2.2.1
  have hins : (Cond.instantiable "java/util/NoSuchElementException" 6).before args s' = true := b5 _ (by simp [tlX])
  obtain ⟨vm₁, cX, kX, hfX, hkX, -, -, X₁, st1⟩ := Y.newCold X.1 (own := RFf) (C := "java/util/NoSuchElementException") (index := 151) (n := 6) hown' hk' hins hini' (g := F0 m pc ls rest) rfl (by rw [X.2.1]; exact d0) (Nat.le_refl _) (Nat.le_refl _)
  generalize hT1 : (T₀.setVm vm₁).pushCell { cls := cX, slots := kX.instanceTypes.map defaultValue, vm := .none } = T1 at X₁ st1
  have hcat : (Value.ref T₀.heap.size).category = 1 := rfl
  have hcellA : T1.heap[T₀.heap.size]? = some (freshCell cX kX) := by rw [← hT1]; exact State.heap_pushCell_size _ _
  have d3' : decode c.code (pc + 3) = .ok (.dup, 1) := by rw [X.2.1]; exact d3
  have d4' : decode c.code (pc + 4) = .ok (.ldc is, 2) := by rw [X.2.1]; exact d4
  have hstr' : vk_R RFf is text sa s' := vk_R.warm hW0 hstr
  obtain ⟨U, hsteps, hrun, hend, hW, hsame, ce, hce, hcl, hcv⟩ := ctN X₁ X.1 htr (own := RFf) (cls := "java/util/NoSuchElementException") (sup := "java/lang/RuntimeException") (names := ["java/lang/Exception"]) (ic := 155) sixN_0 sixN_1 sixN_2 sixN_5 hown' (by decide) (by decide) (by decide) b1 b2 b3 b4 b5 (vx_isRefq hU'.1) (vx_isRefq hN'.1) hfX hkX hcellA (by rw [hhp, hT]; exact Nat.le_refl _) rfl (msg := .ref sa) rfl
    (g := { method := m, pc := pc + 6, locals := ls, stack := .ref sa :: .ref T₀.heap.size :: .ref T₀.heap.size :: rest, locked := none }) rfl (hsz.trans hml.symm) rfl rfl (rest := rest) rfl
    (by rw [X.2.1]; exact d6) (by rw [X.2.1]; exact d9) (fun x hx => (hnx x hx).elim) hRf (by simp only [List.map_cons, List.sum_cons, hcat, List.length_cons, List.length_nil]; show 2 * 0 + _ + _ ≤ _; omega) hlk
  obtain ⟨f1, f2⟩ := vx_frame hsame
  rw [hhp] at f1 f2
  have hWs : s.WarmedH U.vm := State.WarmedH.trans hW0 hW
  have hcl : s.vm.findClass "java/util/NoSuchElementException" = some ce.cls := by rw [hvm] at hcl; exact hcl
  have hall : s.sameButNew ({ U with vm := s.vm } : State) locs k (6 * k) := by
    subst hA
    obtain ⟨e1, e2⟩ := hsame
    rw [State.setFrames_setFrames] at e1
    have g2 : (T₀.setVm s.vm).sameButNew ({ U with vm := s.vm } : State) [] (0 + 1) (0 + 6) := ⟨e1, e2⟩
    have g3 := Y₀.same.trans g2
    rw [List.append_nil] at g3
    exact g3.mono h1 h2
  refine ⟨U, ?_, .threw T₀.heap.size, hrun, hend, Or.inr ⟨T₀.heap.size, rfl, "java/util/NoSuchElementException", ce, locs, XP.of w hp hWs.alike f1 (fun q hq => f2 q hq (fun z hz => nomatch hz)), hce, hcv, hcl, hWs, hall, w.2.2.2.2.2.2⟩⟩
  refine st1 _ ?_
  show Steps p.tables e below (T1.setTop { method := m, pc := pc + 3, locals := ls, stack := .ref T₀.heap.size :: rest, locked := none }) _
  jvm_step X₁.here [X₁.here.top, X.1, d3', Value.category]
  exact X₁.ldcString X.1 (own := RFf) (text := text) (index := is) (a := sa) hown' hstr'.1 hstr'.2
    (g := { method := m, pc := pc + 4, locals := ls, stack := .ref T₀.heap.size :: .ref T₀.heap.size :: rest, locked := none }) rfl d4' _ hsteps
end FXN
