/-! helpers for the main row -/
theorem q_mem_mono {own : Nat} {ini : Bool} {i : Instr} {st st' : List Value} {h h' : qH} (hm : q_mem own ini i st h = some (st', h')) : h.2.1 ≤ h'.2.1 ∧ h.2.2 ≤ h'.2.2 := by
  have up : ∀ (a : Nat) (x : qE), h.2.1 ≤ (qup h a x).2.1 ∧ h.2.2 ≤ (qup h a x).2.2 := fun a x => ⟨Nat.le_refl _, Nat.le_refl _⟩
  have nw : ∀ (x : qE) (k : Nat), h.2.1 ≤ (qnew h x k).2.1 ∧ h.2.2 ≤ (qnew h x k).2.2 := fun x k => ⟨Nat.le_succ _, Nat.le_add_right _ _⟩
  have rf : h.2.1 ≤ h.2.1 ∧ h.2.2 ≤ h.2.2 := ⟨Nat.le_refl _, Nat.le_refl _⟩
  unfold q_mem at hm
  split at hm
  · unfold q_getf at hm
    repeat' (split at hm)
    all_goals first | (cases hm; exact rf) | cases hm
  · unfold q_putf at hm
    repeat' (split at hm)
    all_goals first | (cases hm; exact up _ _) | cases hm
  · unfold q_ald at hm
    repeat' (split at hm)
    all_goals first | (cases hm; exact rf) | cases hm
  · unfold q_ald at hm
    repeat' (split at hm)
    all_goals first | (cases hm; exact rf) | cases hm
  · unfold q_ald at hm
    repeat' (split at hm)
    all_goals first | (cases hm; exact rf) | cases hm
  · unfold q_ald at hm
    repeat' (split at hm)
    all_goals first | (cases hm; exact rf) | cases hm
  · unfold q_alen at hm
    repeat' (split at hm)
    all_goals first | (cases hm; exact rf) | cases hm
  · unfold q_iast at hm
    repeat' (split at hm)
    all_goals first | (cases hm; exact up _ _) | cases hm
  · unfold q_last at hm
    repeat' (split at hm)
    all_goals first | (cases hm; exact up _ _) | cases hm
  · unfold q_bast at hm
    repeat' (split at hm)
    all_goals first | (cases hm; exact up _ _) | cases hm
  · unfold q_aast at hm
    repeat' (split at hm)
    all_goals first | (cases hm; exact up _ _) | cases hm
  · unfold q_newo at hm
    repeat' (split at hm)
    all_goals first | (cases hm; exact nw _ _) | cases hm
  · obtain ⟨k, i0, r, -, -, -, -, -, -, rfl⟩ := q_newa_eq hm
    exact nw _ _
  · unfold q_anew at hm
    split at hm
    · split at hm
      · split at hm
        · cases hm; exact nw _ _
        · cases hm
      · cases hm
    · cases hm
  · obtain ⟨v, -, e9⟩ := Option.map_eq_some_iff.mp hm
    cases e9; exact rf
  · obtain ⟨v, -, e9⟩ := Option.map_eq_some_iff.mp hm
    cases e9; exact rf
  · obtain ⟨v, -, e9⟩ := Option.map_eq_some_iff.mp hm
    cases e9; exact rf
  · split at hm
    · cases hm; exact rf
    · cases hm
  · repeat' (split at hm)
    all_goals first | (cases hm; exact rf) | cases hm
  · split at hm
    · split at hm
      · split at hm
        · cases hm; exact rf
        · cases hm
      · cases hm
    · split at hm
      · unfold q_copy at hm
        split at hm
        · split at hm
          · split at hm
            · split at hm
              · cases hm; exact up _ _
              · cases hm
            · cases hm
          · cases hm
        · cases hm
      · cases hm
  · cases hm
theorem q_lok_eq {i : Instr} {len : Nat} (h : q_lok i len = true) : len = q_len i ∨ (∃ a b d f, i = .tableswitch a b d f) ∨ ∃ a b, i = .lookupswitch a b := by
  unfold q_lok at h
  split at h
  · exact Or.inr (Or.inl ⟨_, _, _, _, rfl⟩)
  · exact Or.inr (Or.inr ⟨_, _, rfl⟩)
  · exact Or.inl (beq_iff_eq.mp h)
/-- a call's shape -/
theorem q_inv_eq {own : Nat} {i : Instr} {st as r : List Value} {h : qH} {k : Nat} (hi : q_inv own i st h = some (k, as, r)) :
    (∃ (idx b : Nat) (as' : List Value) (vs : List Value), i = .invokevirtual idx ∧ q_mth own idx = some k ∧ (q_ms k).1 = 0 ∧ as = .ref b :: as' ∧ as'.length = (q_ms k).2.2.2.2.2.1 ∧ st = as'.reverse ++ .ref b :: r ∧ h.1 b = some (.inr ((q_ms k).2.1, vs)) ∧ (q_ms k).2.1 < 12) ∨
    (∃ (idx b : Nat) (as' : List Value), i = .invokespecial idx ∧ q_mth own idx = some k ∧ (q_ms k).1 = 2 ∧ as = .ref b :: as' ∧ as'.length = (q_ms k).2.2.2.2.2.1 ∧ st = as'.reverse ++ .ref b :: r) ∨
    (∃ idx : Nat, i = .invokestatic idx ∧ q_mth own idx = some k ∧ ((q_ms k).1 = 1 ∨ (q_ms k).1 = 3) ∧ as.length = (q_ms k).2.2.2.2.2.1 ∧ st = as.reverse ++ r) := by
  unfold q_inv at hi
  split at hi
  · split at hi
    · rename_i hk
      split at hi
      · rename_i hc
        split at hi
        · rename_i hdr
          split at hi
          · rename_i hb
            split at hi
            · rename_i hcc
              cases hi
              refine Or.inl ⟨_, _, _, _, rfl, hk, hc.1, rfl, by rw [List.length_reverse, List.length_take]; exact Nat.min_eq_left hc.2, ?_, by rw [hb, hcc.1], by rw [← hcc.1]; exact hcc.2⟩
              rw [List.reverse_reverse, ← hdr, List.take_append_drop]
            · cases hi
          · cases hi
        · cases hi
      · cases hi
    · cases hi
  · split at hi
    · rename_i hk
      split at hi
      · rename_i hc
        split at hi
        · rename_i hdr
          cases hi
          refine Or.inr (Or.inl ⟨_, _, _, rfl, hk, hc.1, rfl, by rw [List.length_reverse, List.length_take]; exact Nat.min_eq_left hc.2, ?_⟩)
          rw [List.reverse_reverse, ← hdr, List.take_append_drop]
        · cases hi
      · cases hi
    · cases hi
  · split at hi
    · rename_i hk
      split at hi
      · rename_i hc
        cases hi
        refine Or.inr (Or.inr ⟨_, rfl, hk, hc.1, by rw [List.length_reverse, List.length_take]; exact Nat.min_eq_left hc.2, ?_⟩)
        rw [List.reverse_reverse, List.take_append_drop]
      · cases hi
    · cases hi
  · cases hi
/-- what a method is given, and its room -/
def q_pre (D : va_G) (dA : Nat → ClassId) (sC : qS) (H0 : Heap) (as : List Value) (h : qH) : Array Value → State → Prop := fun a U => a = (as.map (qv (qad H0.size sC))).toArray ∧ qW D dA sC H0 h U.heap ∧ qAmb D dA sC H0 U
theorem q_pre_blind (D : va_G) (dA : Nat → ClassId) (sC : qS) (H0 : Heap) (as : List Value) (h : qH) : FrameBlind (q_pre D dA sC H0 as h) := fun a U g mk q => ⟨q.1, q.2.1, qAmb.warm (s := U) (U := U.calling g mk a) (State.WarmedH.refl U) q.2.2⟩
def q_rm (d mc ms : Nat) : Room := { frames := 8 * (d + 1), cells := mc, slots := ms, locals := 100 * (d + 1) }
def q_XC (D : va_G) (dA : Nat → ClassId) (sC : qS) (H0 : Heap) (E : String) (h' : qH) : String → State → State → Prop := fun E' _ t => E' = E ∧ qW D dA sC H0 h' t.heap
def q_Qc (D : va_G) (dA : Nat → ClassId) (sC : qS) (H0 : Heap) (v : Option Value) (h' : qH) : Array Value → State → Outcome → State → Prop := fun _ _ o t => o = .returned (v.map (qv (qad H0.size sC))) ∧ qW D dA sC H0 h' t.heap
/-- what the pure machine's end says of the machine's -/
def q_End (D : va_G) (dA : Nat → ClassId) (sC : qS) (H0 : Heap) (o : qO) (h' : qH) (below : List Frame) (args : Array Value) (s : State) (Rc Rs : Nat) : State → Prop := match o with
  | .inl v => MQ below (q_Qc D dA sC H0 v h') args s Rc Rs (fun q => H0.size ≤ q)
  | .inr E => vx_MQ below (fun _ _ _ _ => False) (q_XC D dA sC H0 E h') args s Rc Rs (fun q => H0.size ≤ q)
section QCA
variable {p : Program} {l : Launch} {e : Env} {R : Room} {s : State} {m : MethodId} {args : Array Value} {below : List Frame} {meth : Method} {c : Code} {H : Heap} {locs : List Loc} {cells slots : Nat} {Q : State → Prop}
variable {pc : Nat} {ls : Array Slot} {D : va_G} {dA : Nat → ClassId} {sC : qS} {H0 : Heap}
theorem q_callR {mc ms : Nat} {st0 rest : List Value} {v : Option Value} {h1 : qH} {a : Array Value} (hr : va_Run p l e R s m args below meth c H locs cells slots mc ms (F0 m pc ls st0) rest (q_Qc D dA sC H0 v h1 a) (fun q => H0.size ≤ q)) (hlo : ∀ z ∈ locs, H0.size ≤ z.base)
    (kk : ∀ (H1 : Heap) (locs1 : List Loc), qW D dA sC H0 h1 H1 → (∀ z ∈ locs1, H0.size ≤ z.base) → W p l e R s m args below meth c H1 locs1 (cells + mc) (slots + ms) Q (F0 m (pc + 3) ls ((v.map (qv (qad H0.size sC))).toList ++ rest))) :
    W p l e R s m args below meth c H locs cells slots Q (F0 m pc ls st0) := by
  intro T hT X
  obtain ⟨v', st₀, t, T', L, h0, X', hL, e1, e2, ⟨hv, hw⟩, st⟩ := hr T hT X
  cases hv
  obtain ⟨t2, a1, b1⟩ := kk T'.heap (locs ++ L) (by rw [e1]; exact hw) (fun z hz => by
    rcases List.mem_append.mp hz with q | q
    · exact hlo z q
    · exact hL z q) T' rfl X'
  exact ⟨t2, st t2 a1, b1⟩
theorem q_callX {mc ms Rc Rs : Nat} {st0 rest : List Value} {E : String} {h1 : qH} {a : Array Value} (hr : vx_Run p l e R s m args below meth c H locs cells slots mc ms (F0 m pc ls st0) rest ((fun _ _ _ _ => False : Array Value → State → Outcome → State → Prop) a) (q_XC D dA sC H0 E h1) (fun q => H0.size ≤ q)) (hlo : ∀ z ∈ locs, H0.size ≤ z.base)
    (hex : ∀ x ∈ c.exceptionTable.toList, False) (hlk : meth.locks = false) (hc : cells + mc ≤ Rc) (hs : slots + ms ≤ Rs) :
    W p l e R s m args below meth c H locs cells slots (vx_MQ below (fun _ _ _ _ => False) (q_XC D dA sC H0 E h1) args s Rc Rs (fun q => H0.size ≤ q)) (F0 m pc ls st0) := by
  intro T hT X
  rcases hr T hT X with ⟨v, st₀, t, T', L, h0, X', hL, e1, e2, hf, st⟩ | ⟨q, st₀, t, T', L, E', ce, h0, X', hL, e1, e2, hX, hq, hv, hcl, st⟩
  · exact hf.elim
  · obtain ⟨rfl, hw⟩ := hX
    obtain ⟨t2, a1, b1⟩ := vx_out (pc := pc) (rest := rest) (ls := ls) (E := E') (ce := ce) (q := q) (mc := Rc) (ms := Rs) (Qc := fun _ _ _ _ => False) (XC := q_XC D dA sC H0 E' h1) (free := fun q => H0.size ≤ q) (H := T'.heap) (fun x hx => (hex x hx).elim) hlk (by rw [e1]; exact hq) hv hcl (fun t3 ht3 _ => ⟨rfl, by rw [ht3, e1]; exact hw⟩) (fun z hz => by
      rcases List.mem_append.mp hz with q | q
      · exact hlo z q
      · exact hL z q) hc hs T' rfl X'
    exact ⟨t2, st.trans a1, b1⟩
end QCA
