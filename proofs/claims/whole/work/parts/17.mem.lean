section QMW
variable {p : Program} {l : Launch} {e : Env} {R : Room} {s : State} {m : MethodId} {args : Array Value} {below : List Frame} {meth : Method} {c : Code} {H : Heap} {locs : List Loc} {cells slots : Nat} {Q : State → Prop}
variable {cc : ByteArray} {pc : Nat} {ls : Array Slot} {D : va_G} {dA : Nat → ClassId} {sC : qS} {H0 : Heap} {h : qH}
theorem q_cats {ad : Nat → Nat} {r : List Value} (hr : (r.map fun v => v.category).sum ≤ 8) : ((r.map (qv ad)).map fun v => v.category).sum ≤ 8 := by
  rw [qv_cats]; exact hr
theorem q_fits_int {ty : FieldType} (hty : ty = .byte ∨ ty = .int) {v : Value} (h : fits ty v = true) : ∃ x, v = .int x := by
  rcases hty with rfl | rfl <;> cases v <;> first | exact ⟨_, rfl⟩ | cases h
theorem q_copy_W (hx : p.tables.exec = Jvm.exec) (hb : c.code = cc) (hml : c.maxLocals = ls.size) {own : Nat} {idx : Nat} (hown : s.vm.findClass (oN own) = some m.cls) (hlink : (Cond.methodLink (oN own) idx arraycopyName).before args s = true) (hnat : (Cond.native arraycopyName).before args s = true) (hstat : (Cond.static arraycopyName).before args s = true) (hini : (Cond.initialized "java/lang/System").before args s = true)
    (hK : va_K D hcl (htys dA) s) (w : qW D dA sC H0 h H) {a0 a1 t n0 n1 : Nat} {f g : Nat → Value} (ha0 : h.1 a0 = some (.inl (t, n0, f))) (ha1 : h.1 a1 = some (.inl (t, n1, g))) (ht : t < 2) (hne : a1 < 1000000000) (hne0 : a0 < 1000000000)
    {sp dp n : Int32} (h1 : ¬ sp < 0) (h2 : ¬ dp < 0) (h3 : ¬ n < 0) (h4 : sp.toNatClampNeg + n.toNatClampNeg ≤ n0) (h5 : dp.toNatClampNeg + n.toNatClampNeg ≤ n1) (hfit : ∀ i, i < n.toNatClampNeg → fits (if t = 0 then .byte else .int) (f (sp.toNatClampNeg + i)) = true)
    {rest : List Value} (hframes : 1 ≤ R.frames) (hlocals : (rest.map fun v => v.category).sum + (nativeFrameWords "java/lang/System" "arraycopy" 5 + 11) ≤ R.locals) (hlo : ∀ z ∈ locs, H0.size ≤ z.base) (hdg : decode cc pc = .ok (.invokestatic idx, 3))
    (kk : ∀ (H1 : Heap) (locs1 : List Loc), qW D dA sC H0 (qup h a1 (.inl (t, n1, va_cpy f g sp.toNatClampNeg dp.toNatClampNeg n.toNatClampNeg))) H1 → (∀ z ∈ locs1, H0.size ≤ z.base) → W p l e R s m args below meth c H1 locs1 cells slots Q (F0 m (pc + 3) ls rest)) : W p l e R s m args below meth c H locs cells slots Q (F0 m pc ls (.int n :: .int dp :: .ref (qad H0.size sC a1) :: .int sp :: .ref (qad H0.size sC a0) :: rest)) := by
  have nn : ∀ z : Int32, ¬ z < 0 → z.toInt = (z.toNatClampNeg : Int) := by
    intro z hz
    have hz0 : (0 : Int) ≤ z.toInt := by
      have := Int32.not_lt.mp hz
      simpa using Int32.le_iff_toInt_le.mp this
    show z.toInt = ((z.toInt.toNat : Nat) : Int)
    omega
  generalize had : qad H0.size sC = ad
  have hc0 : H[ad a0]? = some (arrV (dA t) n0 (fun j => qv ad (f j))) := by rw [← had]; exact w.ar ha0 hne0
  have hc1 : H[ad a1]? = some (arrV (dA t) n1 (fun j => qv ad (g j))) := by rw [← had]; exact w.ar ha1 hne
  have hAr : ∃ ty : FieldType, (ty = .byte ∨ ty = .int) ∧ ty = (if t = 0 then FieldType.byte else FieldType.int) ∧ ArrOfT s (dA t) ty := by
    match t, ht with
    | 0, _ => exact ⟨.byte, Or.inl rfl, rfl, (hK.2 0 _ rfl).1⟩
    | 1, _ => exact ⟨.int, Or.inr rfl, rfl, (hK.2 1 _ rfl).1⟩
  obtain ⟨ty, hty, htt, hAr⟩ := hAr
  intro T hT X
  obtain ⟨-, k0, hk0, cm0, hkk0⟩ := hAr n0 (fun j => qv ad (f j))
  obtain ⟨-, k1, hk1, cm1, hkk1⟩ := hAr n1 (fun j => qv ad (g j))
  have hprim : refKind ty = false := by rcases hty with rfl | rfl <;> rfl
  obtain ⟨vm', X', step⟩ := X.arraycopy hx hown hlink hnat hstat hini (src := ad a0) (dst := ad a1) (cs := arrV (dA t) n0 (fun j => qv ad (f j))) (cd := arrV (dA t) n1 (fun j => qv ad (g j))) (srcPos := sp) (destPos := dp) (n := n) (by rw [hT]; exact hc0) (by rw [hT]; exact hc1)
    (fun _ h => by cases h) (fun _ h => by cases h) (fun h => by cases h) (fun h => by cases h) hk0 hk1 hkk0 hkk1 (by simp [hprim]) h1 h2 h3
    (by rw [nn sp h1, nn n h3, arrV_size]; omega)
    (by rw [nn dp h2, nn n h3, arrV_size]; omega)
    (fun vm₁ _ i hi => by
      have e : (arrV (dA t) n0 (fun j => qv ad (f j))).slots.getD (sp.toNatClampNeg + i) .null = qv ad (f (sp.toNatClampNeg + i)) := by
        rw [Array.getD_eq_getD_getElem?, arrV_read _ _ (by omega)]
        rfl
      have hf := hfit i hi
      rw [← htt] at hf
      obtain ⟨x, hx9⟩ := q_fits_int hty hf
      rw [e, hx9]
      rw [hx9] at hf
      exact ⟨hf, trivial⟩)
    (g := F0 m pc ls (.int n :: .int dp :: .ref (ad a1) :: .int sp :: .ref (ad a0) :: rest)) rfl (by rw [hml]) (rest := rest) rfl (by rw [hb]; exact hdg) hframes (by show 2 * 0 + _ + _ ≤ _; omega)
  have e1 : copied (arrV (dA t) n0 (fun j => qv ad (f j))) (arrV (dA t) n1 (fun j => qv ad (g j))) sp dp n = arrV (dA t) n1 (fun j => qv ad (va_cpy f g sp.toNatClampNeg dp.toNatClampNeg n.toNatClampNeg j)) := va_copied (qv ad) (dA t) (dA t) f g h4
  rw [e1] at X' step
  have hl : ad a1 < H.size := (Array.getElem?_eq_some_iff.mp hc1).1
  have hheap : ((T.setVm vm').setCell (ad a1) (arrV (dA t) n1 (fun j => qv ad (va_cpy f g sp.toNatClampNeg dp.toNatClampNeg n.toNatClampNeg j)))).heap = H.setIfInBounds (ad a1) (arrV (dA t) n1 (fun j => qv ad (va_cpy f g sp.toNatClampNeg dp.toNatClampNeg n.toNatClampNeg j))) := by rw [← hT]; rfl
  have oq : ∀ q : Nat, q ≠ ad a1 → (H.setIfInBounds (ad a1) (arrV (dA t) n1 (fun j => qv ad (va_cpy f g sp.toNatClampNeg dp.toNatClampNeg n.toNatClampNeg j))))[q]? = H[q]? := fun q hq => by simp [Array.getElem?_setIfInBounds, Ne.symm hq]
  obtain ⟨t9, a9, b9⟩ := kk _ _ (w.set (e := .inl (t, n1, va_cpy f g sp.toNatClampNeg dp.toNatClampNeg n.toNatClampNeg)) hne (by simp) (by rw [had]; exact oq) (by
      show (H.setIfInBounds _ _)[qad H0.size sC a1]? = some _
      rw [had]
      simp [Array.getElem?_setIfInBounds, hl])) (fun q hq => by
      rcases List.mem_append.mp hq with h | h
      · exact hlo q h
      · obtain ⟨z, -, hz⟩ := List.mem_map.mp h
        rw [← hz]
        show H0.size ≤ ad a1
        rw [← had, qad_lt hne]; omega) _ hheap X'
  exact ⟨t9, step t9 a9, b9⟩
end QMW
