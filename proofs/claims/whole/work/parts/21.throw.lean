theorem q_throw_eq {own : Nat} {cc : ByteArray} {pc : Nat} {i : Instr} {st : List Value} {E : String} (h : q_throw own cc pc i st = some E) : ∃ ik ic is : Nat, i = .new ik ∧ q_thr own ik = some (E, ic) ∧ q_isS is = true ∧ (st.map fun v => v.category).sum ≤ 8 ∧ decode cc (pc + 3) = .ok (.dup, 1) ∧
    ((decode cc (pc + 4) = .ok (.ldc is, 2) ∧ decode cc (pc + 6) = .ok (.invokespecial ic, 3) ∧ decode cc (pc + 9) = .ok (.athrow, 1)) ∨ (decode cc (pc + 4) = .ok (.ldc_w is, 3) ∧ decode cc (pc + 7) = .ok (.invokespecial ic, 3) ∧ decode cc (pc + 10) = .ok (.athrow, 1))) := by
  unfold q_throw at h
  split at h
  · split at h
    · rename_i ht
      split at h
      · rename_i d3 d4
        split at h
        · rename_i d6 d9
          split at h
          · rename_i hc
            cases h
            obtain ⟨rfl, h2, h3⟩ := hc
            exact ⟨_, _, _, rfl, ht, h2, h3, d3, Or.inl ⟨d4, d6, d9⟩⟩
          · cases h
        · cases h
      · rename_i d3 d4
        split at h
        · rename_i d6 d9
          split at h
          · rename_i hc
            cases h
            obtain ⟨rfl, h2, h3⟩ := hc
            exact ⟨_, _, _, rfl, ht, h2, h3, d3, Or.inr ⟨d4, d6, d9⟩⟩
          · cases h
        · cases h
      · cases h
    · cases h
  · cases h

/-- the exceptions: the class, the entry by which the class links its constructor, that constructor's own link and code -/
def q_tidx (E : String) : Nat := if E = "java/util/NoSuchElementException" then 13 else 7
def q_tby (E : String) : ByteArray := if E = "java/util/NoSuchElementException" then ⟨#[0x2a, 0x2b, 0xb7, 0x00, 0x0d, 0xb1]⟩ else ⟨#[0x2a, 0x2b, 0xb7, 0x00, 0x07, 0xb1]⟩
abbrev q_tat (ic : Nat) (E : String) : List Cond := (q_oa RX10 ic E "java/lang/RuntimeException" (q_tidx E) (q_tby E) ["java/lang/Exception"]).filter vx_no
def q_tfact (ik : Nat) (E : String) (ic : Nat) : Prop := Bundle.fit E = true ∧ Cond.classLink RX10 ik E ∈ GW ∧ Cond.initialized E ∈ GW ∧ (∀ w ∈ q_tat ic E, w ∈ tables_1 ∧ (goodWord w || q_isCD w) = true) ∧ (∀ w ∈ Cond.classLink RX10 ik E :: Cond.initialized E :: q_tat ic E, vx_ot w = true) ∧ (decode (q_tby E) 0 = .ok (.aload_n 0, 1) ∧ decode (q_tby E) 1 = .ok (.aload_n 1, 1) ∧ decode (q_tby E) 2 = .ok (.invokespecial (q_tidx E), 3) ∧ decode (q_tby E) 5 = .ok (.return_, 1))
theorem q_tf1 : q_tfact 97 "java/lang/IndexOutOfBoundsException" 101 := ⟨by decide +kernel, GW_tb (by decide +kernel) rfl, GW_tb (by decide +kernel) rfl, by decide +kernel, by decide +kernel, by decide +kernel, by decide +kernel, by decide +kernel, by decide +kernel⟩
theorem q_tf2 : q_tfact 110 "java/lang/IllegalArgumentException" 114 := ⟨by decide +kernel, GW_tb (by decide +kernel) rfl, GW_tb (by decide +kernel) rfl, by decide +kernel, by decide +kernel, by decide +kernel, by decide +kernel, by decide +kernel, by decide +kernel⟩
theorem q_tf3 : q_tfact 130 "java/lang/UnsupportedOperationException" 134 := ⟨by decide +kernel, GW_tb (by decide +kernel) rfl, GW_tb (by decide +kernel) rfl, by decide +kernel, by decide +kernel, by decide +kernel, by decide +kernel, by decide +kernel, by decide +kernel⟩
theorem q_tf4 : q_tfact 222 "java/lang/IllegalStateException" 226 := ⟨by decide +kernel, GW_tb (by decide +kernel) rfl, GW_tb (by decide +kernel) rfl, by decide +kernel, by decide +kernel, by decide +kernel, by decide +kernel, by decide +kernel, by decide +kernel⟩
theorem q_tf5 : q_tfact 235 "java/lang/ClassCastException" 239 := ⟨by decide +kernel, GW_tb (by decide +kernel) rfl, GW_tb (by decide +kernel) rfl, by decide +kernel, by decide +kernel, by decide +kernel, by decide +kernel, by decide +kernel, by decide +kernel⟩
theorem q_tf6 : q_tfact 265 "java/util/NoSuchElementException" 269 := ⟨by decide +kernel, GW_tb (by decide +kernel) rfl, GW_tb (by decide +kernel) rfl, by decide +kernel, by decide +kernel, by decide +kernel, by decide +kernel, by decide +kernel, by decide +kernel⟩
theorem q_thr_ok {own ik ic : Nat} {E : String} (h : q_thr own ik = some (E, ic)) : own = 10 ∧ q_tfact ik E ic := by
  unfold q_thr at h
  split at h
  · rename_i ho
    refine ⟨ho, ?_⟩
    split at h <;> first | (cases h; exact q_tf1) | (cases h; exact q_tf2) | (cases h; exact q_tf3) | (cases h; exact q_tf4) | (cases h; exact q_tf5) | (cases h; exact q_tf6) | cases h
  · cases h
theorem qW.one {D : va_G} {dA : Nat → ClassId} {sC : qS} {H0 H H1 : Heap} {h : qH} (w : qW D dA sC H0 h H) (z : H1.size = H.size + 1) (o : ∀ q, q < H.size → H1[q]? = H[q]?) : qW D dA sC H0 (h.1, h.2.1 + 1, h.2.2 + 6) H1 := by
  obtain ⟨w1, w2, w3, w4⟩ := w
  refine ⟨w1, by show H1.size = H0.size + (h.2.1 + 1); omega, fun q hq => ?_, fun i e' hi => ?_⟩
  · rw [o q (by omega)]
    exact w3 q hq
  · exact ⟨fun q => ((w4 i e' hi).1 q).kept (o _ ((w4 i e' hi).1 q).lt), (w4 i e' hi).2⟩

section QTN
variable {p : Program} {l : Launch} {e : Env} {R : Room} {s : State} {m : MethodId} {args : Array Value} {below : List Frame} {meth : Method} {c : Code} {H : Heap} {locs : List Loc} {cells slots : Nat}
variable {free : Addr → Prop} {ls : Array Slot} {rest : List Value} {Qc : Array Value → State → Outcome → State → Prop} {XC : String → State → State → Prop}
theorem q_throwS {cc : ByteArray} {pc : Nat} (hexec : p.tables.exec = Jvm.exec) (hb : c.code = cc) (hl : l.stackTraces = false) {cls text : String} {ik is ic mc ms sa : Nat} {A : Nat → Prop}
    (hown : s.vm.findClass RX10 = some m.cls) (hF : q_tfact ik cls ic)
    (hk : (Cond.classLink RX10 ik cls).before args s = true) (hini : (Cond.initialized cls).before args s = true) (hstr : vk_R RX10 is text sa s) (hat : ∀ w ∈ q_tat ic cls, w.before args s = true)
    (hU : vx_Zq Bundle.tN "UNASSIGNED_STACK" Bundle.steD A s s.heap) (hN : vx_Zq Bundle.tN "SUPPRESSED_SENTINEL" Bundle.listD A s s.heap) (hS : va_S A s.heap H locs) (hsize : ls.size = c.maxLocals)
    (d0 : decode cc pc = .ok (.new ik, 3)) (d3 : decode cc (pc + 3) = .ok (.dup, 1)) (d4 : decode cc (pc + 4) = .ok (.ldc is, 2)) (d6 : decode cc (pc + 6) = .ok (.invokespecial ic, 3)) (d9 : decode cc (pc + 9) = .ok (.athrow, 1))
    (hout : ∀ x ∈ c.exceptionTable.toList, covers x (pc + 9) = false)
    (hRframes : 5 < R.frames) (hRlocals : (rest.map fun v => v.category).sum + 82 ≤ R.locals) (hRcells : cells + 1 ≤ R.cells) (hRslots : slots + 6 ≤ R.slots) (hlocks : meth.locks = false)
    (hx : ∀ t : State, t.heap.size = H.size + 1 → (∀ q : Nat, q < H.size → t.heap[q]? = H[q]?) → XC cls s t)
    (hf : ∀ z ∈ locs, free z.base) (hc : cells + 1 ≤ mc) (hs : slots + 6 ≤ ms) :
    W p l e R s m args below meth c H locs cells slots (vx_MQ below Qc XC args s mc ms free) (F0 m pc ls rest) := by
  obtain ⟨hcls, -, -, -, hgood, b0, b1, b2, b5⟩ := hF
  intro T hT X
  have htr : e.platform.stackTraces = false := (show e.platform.stackTraces = l.stackTraces by rw [X.admits.platform]).trans hl
  have Y := vx_rebase X (R' := { frames := R.frames, locals := R.locals, cells := 1, slots := 6 }) (Nat.le_refl _) (Nat.le_refl _) hRcells hRslots
  obtain ⟨s', hA⟩ : ∃ z, z = (T.setVm s.vm).setFrames (.invoking m args :: below) := ⟨_, rfl⟩
  rw [← hA] at Y
  have hvm : s'.vm = s.vm := by rw [hA]; rfl
  have hhp : s'.heap = H := by rw [hA]; exact hT
  have hW0 : s.WarmedH s'.vm := by rw [hvm]; exact State.WarmedH.refl s
  have hat' : ∀ w ∈ q_tat ic cls, w.before args s' = true := fun w hw => vx_ot_at hW0 hvm.symm (hgood w (List.mem_cons_of_mem _ (List.mem_cons_of_mem _ hw))) (hat w hw)
  have hk' : (Cond.classLink RX10 ik cls).before args s' = true := vx_ot_at hW0 hvm.symm (hgood _ List.mem_cons_self) hk
  have hini' : (Cond.initialized cls).before args s' = true := vx_ot_at hW0 hvm.symm (hgood _ (List.mem_cons_of_mem _ List.mem_cons_self)) hini
  have hU' : vx_Zq Bundle.tN "UNASSIGNED_STACK" Bundle.steD A s' s'.heap := by rw [hhp]; exact vx_Zq.moved hW0.alike (hU.kept hS.2.1)
  have hN' : vx_Zq Bundle.tN "SUPPRESSED_SENTINEL" Bundle.listD A s' s'.heap := by rw [hhp]; exact vx_Zq.moved hW0.alike (hN.kept hS.2.1)
  have h : ∀ w ∈ q_oa RX10 ic cls "java/lang/RuntimeException" (q_tidx cls) (q_tby cls) ["java/lang/Exception"], w.before args s' = true := vx_own hat' (vx_isRefq hU'.1) (vx_isRefq hN'.1) hU'.2.word hN'.2.word
  have hown' : s'.vm.findClass RX10 = some m.cls := by rw [hvm]; exact hown
  have hins : (Cond.instantiable cls 6).before args s' = true := h _ (by simp [q_oa])
  obtain ⟨vm₁, cX, kX, hfX, hkX, -, -, X₁, st1⟩ := Y.newCold hexec (own := RX10) (C := cls) (index := ik) (n := 6) hown' hk' hins hini'
    (g := F0 m pc ls rest) rfl (by rw [hb]; exact d0) (Nat.le_refl _) (Nat.le_refl _)
  generalize hT1 : (T.setVm vm₁).pushCell { cls := cX, slots := kX.instanceTypes.map defaultValue, vm := .none } = T1 at X₁ st1
  have hcat : (Value.ref T.heap.size).category = 1 := rfl
  have hcellA : T1.heap[T.heap.size]? = some (freshCell cX kX) := by rw [← hT1]; exact State.heap_pushCell_size _ _
  have d3' : decode c.code (pc + 3) = .ok (.dup, 1) := by rw [hb]; exact d3
  have d4' : decode c.code (pc + 4) = .ok (.ldc is, 2) := by rw [hb]; exact d4
  have hstr' : vk_R RX10 is text sa s' := vk_R.warm hW0 hstr
  obtain ⟨U, hsteps, hrun, hend, hW, hsame, ce, hce, hOv, hOc⟩ := q_ctor X₁ hexec htr (own := RX10) (cls := cls) (names := ["java/lang/Exception"]) (ic := ic) hown' hcls (by decide) (by decide) b0 b1 b2 b5 h (fun x hx => nomatch hx) hfX hkX hcellA (by rw [hhp, hT]; exact Nat.le_refl _) (msg := .ref sa) rfl
    (g := { method := m, pc := pc + 6, locals := ls, stack := .ref sa :: .ref T.heap.size :: .ref T.heap.size :: rest, locked := none }) rfl hsize rfl rfl (rest := rest) rfl
    (by rw [hb]; exact d6) (by rw [hb]; exact d9) hout (by show 1 + 4 < R.frames; omega) (by simp only [List.map_cons, List.sum_cons, hcat, List.length_cons, List.length_nil]; omega) hlocks
  obtain ⟨f1, f2⟩ := vx_frame hsame
  rw [hhp] at f1 f2
  have hz1 : U.heap.size = H.size + 1 := by
    have g1 : U.heap.size ≤ s'.heap.size + (0 + 1) := hsame.2.2.1
    have g2 : T.heap.size < U.heap.size := (Array.getElem?_eq_some_iff.mp hce).1
    rw [hhp] at g1
    rw [hT] at g2
    omega
  have hWs : s.WarmedH U.vm := State.WarmedH.trans hW0 hW
  have hcl : s.vm.findClass cls = some ce.cls := by
    have h9 := hOc
    rw [hvm] at h9
    exact h9
  have hall : s.sameButNew ({ U with vm := s.vm } : State) locs mc ms := by
    subst hA
    obtain ⟨e1, e2⟩ := hsame
    rw [State.setFrames_setFrames] at e1
    have h2 : (T.setVm s.vm).sameButNew ({ U with vm := s.vm } : State) [] (0 + 1) (0 + 6) := ⟨e1, e2⟩
    have h3 := X.same.trans h2
    rw [List.append_nil] at h3
    exact h3.mono hc hs
  refine ⟨U, ?_, .threw T.heap.size, hrun, hend, Or.inr ⟨T.heap.size, rfl, cls, ce, locs, hx U hz1 (fun q hq => f2 q hq (fun z hz => nomatch hz)), hce, hOv, hcl, hWs, hall, hf⟩⟩
  refine st1 _ ?_
  show Steps p.tables e below (T1.setTop { method := m, pc := pc + 3, locals := ls, stack := .ref T.heap.size :: rest, locked := none }) _
  jvm_step X₁.here [X₁.here.top, hexec, d3', Value.category]
  exact X₁.ldcString hexec (own := RX10) (text := text) (index := is) (a := sa) hown' hstr'.1 hstr'.2
    (g := { method := m, pc := pc + 4, locals := ls, stack := .ref T.heap.size :: .ref T.heap.size :: rest, locked := none }) rfl d4' _ hsteps
theorem q_throwSW {cc : ByteArray} {pc : Nat} (hexec : p.tables.exec = Jvm.exec) (hb : c.code = cc) (hl : l.stackTraces = false) {cls text : String} {ik is ic mc ms sa : Nat} {A : Nat → Prop}
    (hown : s.vm.findClass RX10 = some m.cls) (hF : q_tfact ik cls ic)
    (hk : (Cond.classLink RX10 ik cls).before args s = true) (hini : (Cond.initialized cls).before args s = true) (hstr : vk_R RX10 is text sa s) (hat : ∀ w ∈ q_tat ic cls, w.before args s = true)
    (hU : vx_Zq Bundle.tN "UNASSIGNED_STACK" Bundle.steD A s s.heap) (hN : vx_Zq Bundle.tN "SUPPRESSED_SENTINEL" Bundle.listD A s s.heap) (hS : va_S A s.heap H locs) (hsize : ls.size = c.maxLocals)
    (d0 : decode cc pc = .ok (.new ik, 3)) (d3 : decode cc (pc + 3) = .ok (.dup, 1)) (d4 : decode cc (pc + 4) = .ok (.ldc_w is, 3)) (d6 : decode cc (pc + 7) = .ok (.invokespecial ic, 3)) (d9 : decode cc (pc + 10) = .ok (.athrow, 1))
    (hout : ∀ x ∈ c.exceptionTable.toList, covers x (pc + 10) = false)
    (hRframes : 5 < R.frames) (hRlocals : (rest.map fun v => v.category).sum + 82 ≤ R.locals) (hRcells : cells + 1 ≤ R.cells) (hRslots : slots + 6 ≤ R.slots) (hlocks : meth.locks = false)
    (hx : ∀ t : State, t.heap.size = H.size + 1 → (∀ q : Nat, q < H.size → t.heap[q]? = H[q]?) → XC cls s t)
    (hf : ∀ z ∈ locs, free z.base) (hc : cells + 1 ≤ mc) (hs : slots + 6 ≤ ms) :
    W p l e R s m args below meth c H locs cells slots (vx_MQ below Qc XC args s mc ms free) (F0 m pc ls rest) := by
  obtain ⟨hcls, -, -, -, hgood, b0, b1, b2, b5⟩ := hF
  intro T hT X
  have htr : e.platform.stackTraces = false := (show e.platform.stackTraces = l.stackTraces by rw [X.admits.platform]).trans hl
  have Y := vx_rebase X (R' := { frames := R.frames, locals := R.locals, cells := 1, slots := 6 }) (Nat.le_refl _) (Nat.le_refl _) hRcells hRslots
  obtain ⟨s', hA⟩ : ∃ z, z = (T.setVm s.vm).setFrames (.invoking m args :: below) := ⟨_, rfl⟩
  rw [← hA] at Y
  have hvm : s'.vm = s.vm := by rw [hA]; rfl
  have hhp : s'.heap = H := by rw [hA]; exact hT
  have hW0 : s.WarmedH s'.vm := by rw [hvm]; exact State.WarmedH.refl s
  have hat' : ∀ w ∈ q_tat ic cls, w.before args s' = true := fun w hw => vx_ot_at hW0 hvm.symm (hgood w (List.mem_cons_of_mem _ (List.mem_cons_of_mem _ hw))) (hat w hw)
  have hk' : (Cond.classLink RX10 ik cls).before args s' = true := vx_ot_at hW0 hvm.symm (hgood _ List.mem_cons_self) hk
  have hini' : (Cond.initialized cls).before args s' = true := vx_ot_at hW0 hvm.symm (hgood _ (List.mem_cons_of_mem _ List.mem_cons_self)) hini
  have hU' : vx_Zq Bundle.tN "UNASSIGNED_STACK" Bundle.steD A s' s'.heap := by rw [hhp]; exact vx_Zq.moved hW0.alike (hU.kept hS.2.1)
  have hN' : vx_Zq Bundle.tN "SUPPRESSED_SENTINEL" Bundle.listD A s' s'.heap := by rw [hhp]; exact vx_Zq.moved hW0.alike (hN.kept hS.2.1)
  have h : ∀ w ∈ q_oa RX10 ic cls "java/lang/RuntimeException" (q_tidx cls) (q_tby cls) ["java/lang/Exception"], w.before args s' = true := vx_own hat' (vx_isRefq hU'.1) (vx_isRefq hN'.1) hU'.2.word hN'.2.word
  have hown' : s'.vm.findClass RX10 = some m.cls := by rw [hvm]; exact hown
  have hins : (Cond.instantiable cls 6).before args s' = true := h _ (by simp [q_oa])
  obtain ⟨vm₁, cX, kX, hfX, hkX, -, -, X₁, st1⟩ := Y.newCold hexec (own := RX10) (C := cls) (index := ik) (n := 6) hown' hk' hins hini'
    (g := F0 m pc ls rest) rfl (by rw [hb]; exact d0) (Nat.le_refl _) (Nat.le_refl _)
  generalize hT1 : (T.setVm vm₁).pushCell { cls := cX, slots := kX.instanceTypes.map defaultValue, vm := .none } = T1 at X₁ st1
  have hcat : (Value.ref T.heap.size).category = 1 := rfl
  have hcellA : T1.heap[T.heap.size]? = some (freshCell cX kX) := by rw [← hT1]; exact State.heap_pushCell_size _ _
  have d3' : decode c.code (pc + 3) = .ok (.dup, 1) := by rw [hb]; exact d3
  have d4' : decode c.code (pc + 4) = .ok (.ldc_w is, 3) := by rw [hb]; exact d4
  have hstr' : vk_R RX10 is text sa s' := vk_R.warm hW0 hstr
  obtain ⟨U, hsteps, hrun, hend, hW, hsame, ce, hce, hOv, hOc⟩ := q_ctor X₁ hexec htr (own := RX10) (cls := cls) (names := ["java/lang/Exception"]) (ic := ic) hown' hcls (by decide) (by decide) b0 b1 b2 b5 h (fun x hx => nomatch hx) hfX hkX hcellA (by rw [hhp, hT]; exact Nat.le_refl _) (msg := .ref sa) rfl
    (g := { method := m, pc := pc + 7, locals := ls, stack := .ref sa :: .ref T.heap.size :: .ref T.heap.size :: rest, locked := none }) rfl hsize rfl rfl (rest := rest) rfl
    (by rw [hb]; exact d6) (by rw [hb]; exact d9) hout (by show 1 + 4 < R.frames; omega) (by simp only [List.map_cons, List.sum_cons, hcat, List.length_cons, List.length_nil]; omega) hlocks
  obtain ⟨f1, f2⟩ := vx_frame hsame
  rw [hhp] at f1 f2
  have hz1 : U.heap.size = H.size + 1 := by
    have g1 : U.heap.size ≤ s'.heap.size + (0 + 1) := hsame.2.2.1
    have g2 : T.heap.size < U.heap.size := (Array.getElem?_eq_some_iff.mp hce).1
    rw [hhp] at g1
    rw [hT] at g2
    omega
  have hWs : s.WarmedH U.vm := State.WarmedH.trans hW0 hW
  have hcl : s.vm.findClass cls = some ce.cls := by
    have h9 := hOc
    rw [hvm] at h9
    exact h9
  have hall : s.sameButNew ({ U with vm := s.vm } : State) locs mc ms := by
    subst hA
    obtain ⟨e1, e2⟩ := hsame
    rw [State.setFrames_setFrames] at e1
    have h2 : (T.setVm s.vm).sameButNew ({ U with vm := s.vm } : State) [] (0 + 1) (0 + 6) := ⟨e1, e2⟩
    have h3 := X.same.trans h2
    rw [List.append_nil] at h3
    exact h3.mono hc hs
  refine ⟨U, ?_, .threw T.heap.size, hrun, hend, Or.inr ⟨T.heap.size, rfl, cls, ce, locs, hx U hz1 (fun q hq => f2 q hq (fun z hz => nomatch hz)), hce, hOv, hcl, hWs, hall, hf⟩⟩
  refine st1 _ ?_
  show Steps p.tables e below (T1.setTop { method := m, pc := pc + 3, locals := ls, stack := .ref T.heap.size :: rest, locked := none }) _
  jvm_step X₁.here [X₁.here.top, hexec, d3', Value.category]
  exact X₁.ldcStringW hexec (own := RX10) (text := text) (index := is) (a := sa) hown' hstr'.1 hstr'.2
    (g := { method := m, pc := pc + 4, locals := ls, stack := .ref T.heap.size :: .ref T.heap.size :: rest, locked := none }) rfl d4' _ hsteps
end QTN
section QTH
variable {p : Program} {l : Launch} {e : Env} {R : Room} {s : State} {m : MethodId} {args : Array Value} {below : List Frame} {meth : Method} {c : Code} {H : Heap} {locs : List Loc} {cells slots : Nat}
variable {cc : ByteArray} {pc : Nat} {ls : Array Slot} {D : va_G} {dA : Nat → ClassId} {sC : qS} {H0 : Heap} {h : qH}
theorem q_throw_W (hl : l.stackTraces = false) (hx : p.tables.exec = Jvm.exec) (hb : c.code = cc) (hG : ∀ w ∈ GW, w.before args s = true) {own : Nat} (hown : s.vm.findClass (oN own) = some m.cls) (hA : qAmb D dA sC H0 s) (hs0 : ∀ q, q < H0.size → s.heap[q]? = H0[q]?) (hs1 : s.heap.size ≤ H.size) (hlk : meth.locks = false) (hex : ∀ x ∈ c.exceptionTable.toList, False) (hml : c.maxLocals = ls.size)
    (w : qW D dA sC H0 h H) (hlo : ∀ z ∈ locs, H0.size ≤ z.base) (hRf : 8 ≤ R.frames) (hRl : 100 ≤ R.locals) {Rc Rs len : Nat} (hRc : cells + 1 ≤ R.cells) (hRs : slots + 6 ≤ R.slots) (hc : cells + 1 ≤ Rc) (hs : slots + 6 ≤ Rs) {i : Instr} {st : List Value} {E : String} (hd : decode cc pc = .ok (i, len)) (hlen : len = q_len i) (ht : q_throw own cc pc i st = some E) :
    W p l e R s m args below meth c H locs cells slots (vx_MQ below (fun _ _ _ _ => False) (q_XC D dA sC H0 E (h.1, h.2.1 + 1, h.2.2 + 6)) args s Rc Rs (fun q => H0.size ≤ q)) (F0 m pc ls (st.map (qv (qad H0.size sC)))) := by
  obtain ⟨ik, ic, is, rfl, h1, h2, h3, d3, h4⟩ := q_throw_eq ht
  obtain ⟨rfl, hF⟩ := q_thr_ok h1
  obtain ⟨f1, f2, f3, f4, f5, -⟩ := id hF
  obtain ⟨hK, hNW, hAO, hST, hZU, hZS, hZC, hSX⟩ := hA
  subst hlen
  have hcat := q_cats (ad := qad H0.size sC) h3
  have hnot : ∀ a : Nat, a < H0.size → ¬ (fun q => H0.size ≤ q) a → s.heap[a]? = H0[a]? := fun a ha _ => hs0 a ha
  have hU := vx_Zq.kept hZU hnot
  have hN := vx_Zq.kept hZS hnot
  have hS : va_S (fun q => H0.size ≤ q) s.heap H locs := ⟨hs1, fun q _ h9 => by
    have h9 : ¬ H0.size ≤ q := h9
    rw [w.2.2.1 q (by omega), hs0 q (by omega)], hlo⟩
  obtain ⟨e9, he9⟩ := Option.isSome_iff_exists.mp h2
  have hm9 := List.mem_of_find?_eq_some he9
  have hi9 : e9.1 = is := by simpa using List.find?_some he9
  obtain ⟨sa, hsa⟩ := hST e9 hm9
  rw [hi9] at hsa
  have hat : ∀ w ∈ q_tat ic E, w.before args s = true := by
    intro w hw
    obtain ⟨g1, g2⟩ := f4 w hw
    rcases Bool.or_eq_true_iff.mp g2 with g | g
    · exact hG w (GW_tb g1 g)
    · exact va_Nw.use (by cases w <;> first | rfl | cases g) (hNW w (List.mem_append_right _ (List.mem_filter.mpr ⟨g1, g⟩)))
  have hxx : ∀ t : State, t.heap.size = H.size + 1 → (∀ q : Nat, q < H.size → t.heap[q]? = H[q]?) → q_XC D dA sC H0 E (h.1, h.2.1 + 1, h.2.2 + 6) E s t := fun t z o => ⟨rfl, w.one z o⟩
  rcases h4 with ⟨d4, d6, d9⟩ | ⟨d4, d7, d10⟩
  · exact q_throwS hx hb hl hown hF (hG _ f2) (hG _ f3) hsa hat hU hN hS hml.symm hd d3 d4 d6 d9 (fun x hx => (hex x hx).elim) (by omega) (by omega) hRc hRs hlk hxx hlo hc hs
  · exact q_throwSW hx hb hl hown hF (hG _ f2) (hG _ f3) hsa hat hU hN hS hml.symm hd d3 d4 d7 d10 (fun x hx => (hex x hx).elim) (by omega) (by omega) hRc hRs hlk hxx hlo hc hs
end QTH
