/-! THE PURE HEAP: number i lies at qad i; one number is the table of the class's own sets -/
/-- the special numbers: where the sets' table and the script lie, the script's length and ints -/
abbrev qS : Type := (Nat × Nat) × (Nat × (Nat → Int32))
def q_CLS : Nat → Int32 := fun j => match j with
  | 1 => 67043328
  | 9 => 67043328
  | 10 => -2013265922
  | 11 => 134217726
  | 16 => 15872
  | 17 => 1
  | 24 => 1024
  | _ => 0
def q_spe (sC : qS) (i : Nat) : Option qE := if i = 1000000000 then some (.inl (1, 32, fun j => .int (q_CLS j))) else if i = 1000000001 then some (.inl (1, sC.2.1, fun j => .int (sC.2.2 j))) else none
def q_SX (sC : qS) (H0 : Heap) (U : State) : Prop := va_X sC.1.1 32 q_CLS U H0 ∧ va_X sC.1.2 sC.2.1 sC.2.2 U H0
def qad (b : Nat) (sC : qS) (i : Nat) : Nat := if i = 1000000000 then sC.1.1 else if i = 1000000001 then sC.1.2 else b + i
theorem qad_inj {b : Nat} {sC : qS} {i j : Nat} (hs : sC.1.1 < b ∧ sC.1.2 < b) (hj : j < 1000000000) (h : qad b sC i = qad b sC j) : i = j := by
  unfold qad at h
  (repeat' (split at h)) <;> omega
theorem qad_lt {b : Nat} {sC : qS} {i : Nat} (h : i < 1000000000) : qad b sC i = b + i := by
  unfold qad
  rw [if_neg (by omega), if_neg (by omega)]
def q_at (D : va_G) (dA : Nat → ClassId) (ad : Nat → Nat) (i : Nat) (e : qE) (H : Heap) : Prop := match e with
  | .inl a => H[ad i]? = some (arrV (dA a.1) a.2.1 (fun j => qv ad (a.2.2 j)))
  | .inr o => va_at D hcl (ad i, .inr (o.1, o.2.map (qv ad))) H
theorem q_at.kept {D : va_G} {dA : Nat → ClassId} {ad : Nat → Nat} {i : Nat} {e : qE} {H H1 : Heap} (h : q_at D dA ad i e H) (hq : H1[ad i]? = H[ad i]?) : q_at D dA ad i e H1 := by
  cases e with
  | inl a => exact hq.trans h
  | inr o => exact va_at.kept (D := D) (cl := hcl) (q := (ad i, .inr (o.1, o.2.map (qv ad)))) h hq
theorem q_at.lt {D : va_G} {dA : Nat → ClassId} {ad : Nat → Nat} {i : Nat} {e : qE} {H : Heap} (h : q_at D dA ad i e H) : ad i < H.size := by
  cases e with
  | inl a => exact (Array.getElem?_eq_some_iff.mp h).1
  | inr o => exact va_at.lt (D := D) (cl := hcl) (q := (ad i, .inr (o.1, o.2.map (qv ad)))) h
def qW (D : va_G) (dA : Nat → ClassId) (sC : qS) (H0 : Heap) (h : qH) (H : Heap) : Prop :=
  (sC.1.1 < H0.size ∧ sC.1.2 < H0.size) ∧ H.size = H0.size + h.2.1 ∧ (∀ q, q < H0.size → H[q]? = H0[q]?) ∧ ∀ i e, h.1 i = some e → (i < 1000000000 → q_at D dA (qad H0.size sC) i e H) ∧ (¬ i < 1000000000 → q_spe sC i = some e)
theorem qW.ob {D : va_G} {dA : Nat → ClassId} {sC : qS} {H0 H : Heap} {h : qH} {a : Nat} {o : Nat × List Value} (w : qW D dA sC H0 h H) (ha : h.1 a = some (.inr o)) : va_at D hcl (qad H0.size sC a, .inr (o.1, o.2.map (qv (qad H0.size sC)))) H := by
  by_cases hlt : a < 1000000000
  · exact (w.2.2.2 a _ ha).1 hlt
  · have h1 := (w.2.2.2 a _ ha).2 hlt
    unfold q_spe at h1
    (repeat' (split at h1)) <;> cases h1
theorem qW.ar {D : va_G} {dA : Nat → ClassId} {sC : qS} {H0 H : Heap} {h : qH} {a : Nat} {x : Nat × Nat × (Nat → Value)} (w : qW D dA sC H0 h H) (ha : h.1 a = some (.inl x)) (hlt : a < 1000000000) : H[qad H0.size sC a]? = some (arrV (dA x.1) x.2.1 (fun j => qv (qad H0.size sC) (x.2.2 j))) := (w.2.2.2 a _ ha).1 hlt
theorem qW.ty {D : va_G} {dA : Nat → ClassId} {sC : qS} {H0 H : Heap} {h : qH} {a t : Nat} {x : Nat × (Nat → Value)} (w : qW D dA sC H0 h H) (ha : h.1 a = some (.inl (t, x))) (ht : t ≠ 1) : a < 1000000000 := by
  by_cases hlt : a < 1000000000
  · exact hlt
  · have h1 := (w.2.2.2 a _ ha).2 hlt
    unfold q_spe at h1
    (repeat' (split at h1)) <;> cases h1 <;> exact absurd rfl ht
def qup (h : qH) (a : Nat) (e : qE) : qH := (fun j => if j = a then some e else h.1 j, h.2)
def qnew (h : qH) (e : qE) (k : Nat) : qH := (fun j => if j = h.2.1 then some e else h.1 j, h.2.1 + 1, h.2.2 + k)
theorem qW.set {D : va_G} {dA : Nat → ClassId} {sC : qS} {H0 H H1 : Heap} {h : qH} {a : Nat} {e : qE} (w : qW D dA sC H0 h H) (ha : a < 1000000000) (z : H1.size = H.size) (o : ∀ q, q ≠ qad H0.size sC a → H1[q]? = H[q]?) (n : q_at D dA (qad H0.size sC) a e H1) : qW D dA sC H0 (qup h a e) H1 := by
  obtain ⟨w1, w2, w3, w4⟩ := w
  refine ⟨w1, by rw [z]; exact w2, fun q hq => ?_, fun i e' hi => ?_⟩
  · rw [o q (by rw [qad_lt ha]; omega)]
    exact w3 q hq
  · unfold qup at hi
    by_cases hia : i = a
    · simp only [hia, if_true] at hi
      cases hi
      rw [hia]; exact ⟨fun _ => n, fun q => absurd ha q⟩
    · simp only [hia, if_false] at hi
      exact ⟨fun q => ((w4 i e' hi).1 q).kept (o _ (fun q => hia (qad_inj w1 ha q))), (w4 i e' hi).2⟩
theorem qW.new {D : va_G} {dA : Nat → ClassId} {sC : qS} {H0 H H1 : Heap} {h : qH} {e : qE} {k : Nat} (w : qW D dA sC H0 h H) (hn : h.2.1 < 1000000000) (z : H1.size = H.size + 1) (o : ∀ q, q < H.size → H1[q]? = H[q]?) (n : q_at D dA (qad H0.size sC) h.2.1 e H1) : qW D dA sC H0 (qnew h e k) H1 := by
  obtain ⟨w1, w2, w3, w4⟩ := w
  refine ⟨w1, by rw [z, w2]; rfl, fun q hq => ?_, fun i e' hi => ?_⟩
  · rw [o q (by omega)]
    exact w3 q hq
  · unfold qnew at hi
    by_cases hia : i = h.2.1
    · simp only [hia, if_true] at hi
      cases hi
      rw [hia]; exact ⟨fun _ => n, fun q => absurd hn q⟩
    · simp only [hia, if_false] at hi
      exact ⟨fun q => ((w4 i e' hi).1 q).kept (o _ ((w4 i e' hi).1 q).lt), (w4 i e' hi).2⟩
theorem qW.top {D : va_G} {dA : Nat → ClassId} {sC : qS} {H0 H : Heap} {h : qH} (w : qW D dA sC H0 h H) (hn : h.2.1 < 1000000000) : qad H0.size sC h.2.1 = H.size := by
  rw [qad_lt hn, w.2.1]
/-- the classes by whose tables a method's numbers are read -/
def oN (o : Nat) : String := match o with
  | 12 => RL
  | 13 => "java/util/Arrays"
  | 14 => "java/lang/Math"
  | k => qC k
def q_fit (ty : FieldType) (v : Value) : Bool := decide (narrow ty v = v) && fits ty v
theorem q_fit_qv {ty : FieldType} {v : Value} (ad : Nat → Nat) (h : q_fit ty v = true) : narrow ty (qv ad v) = qv ad v ∧ fits ty (qv ad v) = true := by
  unfold q_fit at h
  simp only [Bool.and_eq_true, decide_eq_true_eq] at h
  cases v with
  | ref a =>
    refine ⟨?_, ?_⟩
    · cases ty <;> rfl
    · have := h.2
      cases ty <;> first | rfl | cases this
  | _ => exact h
section QME
variable {p : Program} {l : Launch} {e : Env} {R : Room} {s : State} {m : MethodId} {args : Array Value} {below : List Frame} {meth : Method} {c : Code} {H : Heap} {locs : List Loc} {cells slots : Nat} {Q : State → Prop}
variable {cc : ByteArray} {pc : Nat} {ls : Array Slot} {D : va_G} {dA : Nat → ClassId} {sC : qS} {H0 : Heap} {tys : List (ClassId × FieldType)}
theorem q_P1 {a : Nat} {x : va_E} (h : va_at D hcl (a, x) H) : va_P D hcl [(a, x)] H := by
  intro k q hk
  match k, hk with
  | 0, hk => cases hk; exact h
  | k + 1, hk => simp at hk
theorem q_getf_W (hx : p.tables.exec = Jvm.exec) (hb : c.code = cc) (hG : ∀ w ∈ GW, w.before args s = true) {own : Nat} (hown : s.vm.findClass (oN own) = some m.cls) (hK : va_K D hcl tys s) {h : qH} (w : qW D dA sC H0 h H)
    {idx k j a : Nat} {vs rest : List Value} {v : Value} (hk : k < 12) (hj : j < qN k) (hl : Cond.fieldLink (oN own) idx (qF k j).1 (qF k j).2.1 (qF k j).2.2.1 ∈ GW) (ha : h.1 a = some (.inr (k, vs))) (hv : vs[j]? = some v) (hd : decode cc pc = .ok (.getfield idx, 3))
    (kk : W p l e R s m args below meth c H locs cells slots Q (F0 m (pc + 3) ls (qv (qad H0.size sC) v :: rest))) : W p l e R s m args below meth c H locs cells slots Q (F0 m pc ls (.ref (qad H0.size sC a) :: rest)) :=
  va_get (ws := [(qad H0.size sC a, .inr (k, vs.map (qv (qad H0.size sC))))]) hx hb hG (q_in k hk) hown hK (q_P1 (w.ob ha)) 0 rfl (q_cl k hk) j hj (hG _ hl) (fun _ h => h) (by rw [List.getElem?_map, hv]; rfl) hd kk
theorem q_putf_W (hx : p.tables.exec = Jvm.exec) (hb : c.code = cc) (hG : ∀ w ∈ GW, w.before args s = true) {own : Nat} (hown : s.vm.findClass (oN own) = some m.cls) (hK : va_K D hcl tys s) {h : qH} (w : qW D dA sC H0 h H)
    {idx k j a : Nat} {vs rest : List Value} {v : Value} (hk : k < 12) (hj : j < qN k) (hl : Cond.fieldLink (oN own) idx (qF k j).1 (qF k j).2.1 (qF k j).2.2.1 ∈ GW) (ha : h.1 a = some (.inr (k, vs))) (hne : a < 1000000000) (hjl : j < vs.length)
    (hfit : q_fit (qTy k j) v = true) (hfin : (qF k j).2.2.2 = false ∨ (meth.name = "<init>" ∧ (qF k j).1 = oN own)) (hlo : ∀ z ∈ locs, H0.size ≤ z.base) (hd : decode cc pc = .ok (.putfield idx, 3))
    (kk : ∀ (H1 : Heap) (locs1 : List Loc), qW D dA sC H0 (qup h a (.inr (k, vs.set j v))) H1 → (∀ z ∈ locs1, H0.size ≤ z.base) → W p l e R s m args below meth c H1 locs1 cells slots Q (F0 m (pc + 3) ls rest)) :
    W p l e R s m args below meth c H locs cells slots Q (F0 m pc ls (qv (qad H0.size sC) v :: .ref (qad H0.size sC a) :: rest)) := by
  have hap := va_apart (own := oN own) hG (q_in k hk) (qTy k) (q_ty k hk) (q_nm k hk) hK (q_cl k hk)
  obtain ⟨r, h1, cell, q1, q2, q3, q4⟩ := w.ob ha
  have hr : r = (qC k, qF k, qN k) := Option.some.inj (h1.symm.trans (q_cl k hk))
  subst hr
  obtain ⟨hS, hfc, kC, hkC, hkind⟩ := hK.1 k _ (q_cl k hk)
  obtain ⟨cf, kf, fi, f, hi, hsl⟩ := hS j hj
  obtain ⟨hn, hf⟩ := q_fit_qv (qad H0.size sC) hfit
  have hst := (u_facts hfc hkC (u_lays hG (q_in k hk) hj) hi).1
  have hlay := hG _ (q_in k hk _ (u_in_lay hj))
  have hb9 : H0.size ≤ qad H0.size sC a := by rw [qad_lt hne]; omega
  have fin : ∀ H' : Heap, H'[qad H0.size sC a]? = some (cell.setSlot (D.2 k j) (qv (qad H0.size sC) v)) → H'.size = H.size → (∀ q, q ≠ qad H0.size sC a → H'[q]? = H[q]?) →
      W p l e R s m args below meth c H' (locs ++ [⟨qad H0.size sC a, D.2 k j⟩]) cells slots Q (F0 m (pc + 3) ls rest) := by
    intro H' e1 e2 e3
    refine kk H' _ (w.set hne e2 e3 ?_) ?_
    · refine ⟨_, q_cl k hk, t_OB.to (V := updV (vp_V (vs.map (qv (qad H0.size sC)))) j (qv (qad H0.size sC) v)) ⟨_, e1, q2, q3, t_set q4 hap hj _⟩ (fun i _ => ?_)⟩
      rw [vp_updV_set (by rw [List.length_map]; exact hjl)]
      show vp_V _ i = vp_V (List.map (qv (qad H0.size sC)) (vs.set j v)) i
      rw [List.map_set]
    · intro z hz
      rcases List.mem_append.mp hz with q | q
      · exact hlo z q
      · rw [List.mem_singleton.mp q]; exact hb9
  by_cases hfi : (qF k j).2.2.2 = true
  · rcases hfin with q | ⟨hin, hdecl⟩
    · rw [q] at hfi; cases hfi
    · unfold u_lay at hlay
      rw [if_pos hfi] at hlay
      have hcf : m.cls = cf := by
        obtain ⟨_, _, c', _, _, _, -, -, hf', -, -, -, hown2, -⟩ := Cond.laysFinal_spec hlay
        have e1 : c' = cf := by have := hi.symm.trans hf'; simp at this; exact this.1.symm
        rw [hdecl] at hown2
        rw [← e1]; exact Option.some.inj (hown.symm.trans hown2)
      have h6 := u_fits hfc hkC hkind (Or.inr hlay) hi (q_ty k hk j hj) hn hf
      refine W.putFinK hx hb hown (hG _ hl) hi hst hcf hin (by rw [q2]; exact h6) q1 q3 (by rw [hsl]; exact k2_hasslot (q4 j hj)) rfl rfl hd fun H' e1 e2 e3 => ?_
      rw [hsl] at e1 ⊢
      exact fin H' e1 e2 e3
  · unfold u_lay at hlay
    rw [if_neg hfi] at hlay
    have h6 := u_store hfc hkC hkind hlay hi (q_ty k hk j hj) hn hf
    refine W.putK hx hb (f := f) ⟨hown, hG _ hl, ⟨_, _, _, hi⟩, hst⟩ (by rw [q2]; exact h6) q1 q3 (by rw [hsl]; exact k2_hasslot (q4 j hj)) rfl rfl hd fun H' e1 e2 e3 => ?_
    rw [hsl] at e1 ⊢
    exact fin H' e1 e2 e3
end QME
