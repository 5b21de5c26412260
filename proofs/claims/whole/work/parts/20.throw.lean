/-! throws out of a method -/
theorem q_throw_eq {own : Nat} {cc : ByteArray} {pc : Nat} {i : Instr} {st : List Value} {E : String} (h : q_throw own cc pc i st = some E) : ∃ ik ic is : Nat, i = .new ik ∧ q_thr own ik = some (E, ic) ∧ q_isS is = true ∧ (st.map fun v => v.category).sum ≤ 8 ∧ decode cc (pc + 3) = .ok (.dup, 1) ∧
    ((decode cc (pc + 4) = .ok (.ldc is, 2) ∧ decode cc (pc + 6) = .ok (.invokespecial ic, 3) ∧ decode cc (pc + 9) = .ok (.athrow, 1)) ∨ (decode cc (pc + 4) = .ok (.ldc_w is, 3) ∧ decode cc (pc + 7) = .ok (.invokespecial ic, 3) ∧ decode cc (pc + 10) = .ok (.athrow, 1))) := by
  unfold q_throw at h
  split at h
  · split at h
    · rename_i ht
      split at h
      · rename_i d3 d4
        split at h
        · rename_i d6 d9
          split at h
          · rename_i hc
            cases h
            obtain ⟨rfl, h2, h3⟩ := hc
            exact ⟨_, _, _, rfl, ht, h2, h3, d3, Or.inl ⟨d4, d6, d9⟩⟩
          · cases h
        · cases h
      · rename_i d3 d4
        split at h
        · rename_i d6 d9
          split at h
          · rename_i hc
            cases h
            obtain ⟨rfl, h2, h3⟩ := hc
            exact ⟨_, _, _, rfl, ht, h2, h3, d3, Or.inr ⟨d4, d6, d9⟩⟩
          · cases h
        · cases h
      · cases h
    · cases h
  · cases h
abbrev q_up : List String := ["java/lang/RuntimeException", "java/lang/Exception"]
def q_tfact (ik : Nat) (E : String) (ic : Nat) : Prop := Bundle.fit E = true ∧ Cond.classLink RX10 ik E ∈ GW ∧ Cond.initialized E ∈ GW ∧ (∀ w ∈ vx_atS RX10 ic E q_up, w ∈ tables_1 ∧ (goodWord w || q_isCD w) = true) ∧ ∀ w ∈ Cond.classLink RX10 ik E :: Cond.initialized E :: vx_atS RX10 ic E q_up, vx_ot w = true
theorem q_tf1 : q_tfact 97 "java/lang/IndexOutOfBoundsException" 101 := ⟨by decide +kernel, GW_tb (by decide +kernel) rfl, GW_tb (by decide +kernel) rfl, by decide +kernel, by decide +kernel⟩
theorem q_tf2 : q_tfact 110 "java/lang/IllegalArgumentException" 114 := ⟨by decide +kernel, GW_tb (by decide +kernel) rfl, GW_tb (by decide +kernel) rfl, by decide +kernel, by decide +kernel⟩
theorem q_tf3 : q_tfact 130 "java/lang/UnsupportedOperationException" 134 := ⟨by decide +kernel, GW_tb (by decide +kernel) rfl, GW_tb (by decide +kernel) rfl, by decide +kernel, by decide +kernel⟩
theorem q_tf4 : q_tfact 222 "java/lang/IllegalStateException" 226 := ⟨by decide +kernel, GW_tb (by decide +kernel) rfl, GW_tb (by decide +kernel) rfl, by decide +kernel, by decide +kernel⟩
theorem q_tf5 : q_tfact 235 "java/lang/ClassCastException" 239 := ⟨by decide +kernel, GW_tb (by decide +kernel) rfl, GW_tb (by decide +kernel) rfl, by decide +kernel, by decide +kernel⟩
theorem q_thr_ok {own ik ic : Nat} {E : String} (h : q_thr own ik = some (E, ic)) : own = 10 ∧ q_tfact ik E ic := by
  unfold q_thr at h
  split at h
  · rename_i ho
    refine ⟨ho, ?_⟩
    split at h <;> first | (cases h; exact q_tf1) | (cases h; exact q_tf2) | (cases h; exact q_tf3) | (cases h; exact q_tf4) | (cases h; exact q_tf5) | cases h
  · cases h
theorem qW.grow {D : va_G} {dA : Nat → ClassId} {sC : Nat} {H0 H H1 : Heap} {h : qH} (w : qW D dA sC H0 h H) (z : H.size ≤ H1.size) (o : ∀ q, q < H.size → H1[q]? = H[q]?) : ∃ n', h.2.1 ≤ n' ∧ qW D dA sC H0 (h.1, n', h.2.2) H1 := by
  obtain ⟨w1, w2, w3, w4⟩ := w
  refine ⟨H1.size - H0.size, by omega, w1, by show H1.size = H0.size + (H1.size - H0.size); omega, fun q hq => ?_, fun i e' hi => ?_⟩
  · rw [o q (by omega)]
    exact w3 q hq
  · exact (w4 i e' hi).kept (o _ (w4 i e' hi).lt)
section QTH
variable {p : Program} {l : Launch} {e : Env} {R : Room} {s : State} {m : MethodId} {args : Array Value} {below : List Frame} {meth : Method} {c : Code} {H : Heap} {locs : List Loc} {cells slots : Nat}
variable {cc : ByteArray} {pc : Nat} {ls : Array Slot} {D : va_G} {dA : Nat → ClassId} {sC : Nat} {H0 : Heap} {h : qH}
theorem q_throw_W (hl : l.stackTraces = false) (hx : p.tables.exec = Jvm.exec) (hb : c.code = cc) (hG : ∀ w ∈ GW, w.before args s = true) {own : Nat} (hown : s.vm.findClass (oN own) = some m.cls) (hA : qAmb D dA sC H0 s) (hs0 : ∀ q, q < H0.size → s.heap[q]? = H0[q]?) (hs1 : s.heap.size ≤ H.size) (hlk : meth.locks = false) (hex : ∀ x ∈ c.exceptionTable.toList, False) (hml : c.maxLocals = ls.size)
    (w : qW D dA sC H0 h H) (hlo : ∀ z ∈ locs, H0.size ≤ z.base) (hRf : 8 ≤ R.frames) (hRl : 100 ≤ R.locals) {Rc Rs len : Nat} (hRc : cells + 1 ≤ R.cells) (hRs : slots + 6 ≤ R.slots) (hc : cells + 1 ≤ Rc) (hs : slots + 6 ≤ Rs) {i : Instr} {st : List Value} {E : String} (hd : decode cc pc = .ok (i, len)) (hlen : len = q_len i) (ht : q_throw own cc pc i st = some E) :
    W p l e R s m args below meth c H locs cells slots (vx_MQ below (fun _ _ _ _ => False) (q_XC D dA sC H0 E h) args s Rc Rs (fun q => H0.size ≤ q)) (F0 m pc ls (st.map (qv (qad H0.size sC)))) := by
  obtain ⟨ik, ic, is, rfl, h1, h2, h3, d3, h4⟩ := q_throw_eq ht
  obtain ⟨rfl, f1, f2, f3, f4, f5⟩ := q_thr_ok h1
  obtain ⟨hK, hNW, hAO, hST, hZU, hZS, hZC⟩ := hA
  subst hlen
  have hcat := q_cats (ad := qad H0.size sC) h3
  have hnot : ∀ a : Nat, a < H0.size → ¬ (fun q => H0.size ≤ q) a → s.heap[a]? = H0[a]? := fun a ha _ => hs0 a ha
  have hU := vx_Zq.kept hZU hnot
  have hN := vx_Zq.kept hZS hnot
  have hS : va_S (fun q => H0.size ≤ q) s.heap H locs := ⟨hs1, fun q _ h9 => by
    have h9 : ¬ H0.size ≤ q := h9
    rw [w.2.2.1 q (by omega), hs0 q (by omega)], hlo⟩
  obtain ⟨e9, he9⟩ := Option.isSome_iff_exists.mp h2
  have hm9 := List.mem_of_find?_eq_some he9
  have hi9 : e9.1 = is := by simpa using List.find?_some he9
  obtain ⟨sa, hsa⟩ := hST e9 hm9
  rw [hi9] at hsa
  have hat : ∀ w ∈ vx_atS RX10 ic E q_up, w.before args s = true := by
    intro w hw
    obtain ⟨g1, g2⟩ := f4 w hw
    rcases Bool.or_eq_true_iff.mp g2 with g | g
    · exact hG w (GW_tb g1 g)
    · exact va_Nw.use (by cases w <;> first | rfl | cases g) (hNW w (List.mem_append_right _ (List.mem_filter.mpr ⟨g1, g⟩)))
  have hxx : ∀ t : State, s.vm.Alike t.vm → H.size ≤ t.heap.size → (∀ q : Nat, q < H.size → t.heap[q]? = H[q]?) → q_XC D dA sC H0 E h E s t := fun t _ z o => ⟨rfl, w.grow z o⟩
  rcases h4 with ⟨d4, d6, d9⟩ | ⟨d4, d7, d10⟩
  · exact vx_throwS (names := q_up) hx hb hl hown f1 (by decide) (hG _ f2) (hG _ f3) hsa hat f5 hU hN hS hml.symm hd d3 d4 d6 d9 (fun x hx => (hex x hx).elim) (by show 2 + 3 < _; omega) (by show _ + (13 * (2 + 1) + 43) ≤ _; omega) hRc hRs hlk hxx hlo hc hs
  · exact vx_throwSW (names := q_up) hx hb hl hown f1 (by decide) (hG _ f2) (hG _ f3) hsa hat f5 hU hN hS hml.symm hd d3 d4 d7 d10 (fun x hx => (hex x hx).elim) (by show 2 + 3 < _; omega) (by show _ + (13 * (2 + 1) + 43) ≤ _; omega) hRc hRs hlk hxx hlo hc hs
end QTH
