/-! steps that are no call, no return and no throw, for bodies with tables -/
def q_step (M : qM) (pc : Nat) (env : qL) (st : List Value) (h : qH) : Option (Nat × qL × List Value × qH) := match decode M.2.2.1 pc with
  | .error _ => none
  | .ok (i, len) => if q_lok i len = true then (match q_op i st with
    | some st' => some (pc + len, env, st', h)
    | none => match q_loc M.2.2.2.1 i len env st with
      | some (env', st') => some (pc + len, env', st', h)
      | none => match q_jmp i pc st with
        | some (pc', st') => some (pc', env, st', h)
        | none => match q_mem M.2.1 (M.1 == 2) i st h with
          | some (st', h') => some (pc + len, env, st', h')
          | none => none) else none
theorem q_step_mono {M : qM} {pc pc' : Nat} {env env' : qL} {st st' : List Value} {h h' : qH} (hs : q_step M pc env st h = some (pc', env', st', h')) : h.2.1 ≤ h'.2.1 ∧ h.2.2 ≤ h'.2.2 := by
  unfold q_step at hs
  split at hs
  · cases hs
  · split at hs
    · split at hs
      · cases hs; exact ⟨Nat.le_refl _, Nat.le_refl _⟩
      · split at hs
        · cases hs; exact ⟨Nat.le_refl _, Nat.le_refl _⟩
        · split at hs
          · cases hs; exact ⟨Nat.le_refl _, Nat.le_refl _⟩
          · split at hs
            · rename_i hm
              cases hs; exact q_mem_mono hm
            · cases hs
    · cases hs
section QSP
variable {p : Program} {l : Launch} {e : Env} {R : Room} {s : State} {m : MethodId} {args : Array Value} {below : List Frame} {meth : Method} {c : Code} {H : Heap} {locs : List Loc} {cells slots : Nat} {Q : State → Prop}
variable {ls : Array Slot} {D : va_G} {dA : Nat → ClassId} {sC : qS} {H0 : Heap}
set_option maxHeartbeats 4000000 in
theorem q_step_W {M : qM} {pc pc' : Nat} {env env' : qL} {st st' : List Value} {h h' : qH} (hstep : q_step M pc env st h = some (pc', env', st', h')) (hx : p.tables.exec = Jvm.exec) (hb : c.code = M.2.2.1) (hml : c.maxLocals = M.2.2.2.1) (hG : ∀ w ∈ GW, w.before args s = true) (hown : s.vm.findClass (oN M.2.1) = some m.cls) (hA : qAmb D dA sC H0 s) (hs0 : ∀ q, q < H0.size → s.heap[q]? = H0[q]?) (hs1 : H0.size ≤ s.heap.size) (hin : M.1 = 2 → meth.name = "<init>")
    {n0 s0 : Nat} (hlv : lv_has ls M.2.2.2.1 (qm (qad H0.size sC) env)) (w : qW D dA sC H0 h H) (hlo : ∀ z ∈ locs, H0.size ≤ z.base) (hc : cells + n0 = h.2.1) (hsl : slots + s0 = h.2.2) (hRc : h'.2.1 ≤ R.cells + n0) (hRs : h'.2.2 ≤ R.slots + s0) (hRf : 8 ≤ R.frames) (hRl : 100 ≤ R.locals)
    (kk : ∀ (H1 : Heap) (locs1 : List Loc) (cells1 slots1 : Nat) (ls1 : Array Slot), lv_has ls1 M.2.2.2.1 (qm (qad H0.size sC) env') → qW D dA sC H0 h' H1 → (∀ z ∈ locs1, H0.size ≤ z.base) → cells1 + n0 = h'.2.1 → slots1 + s0 = h'.2.2 → W p l e R s m args below meth c H1 locs1 cells1 slots1 Q (F0 m pc' ls1 (st'.map (qv (qad H0.size sC))))) :
    W p l e R s m args below meth c H locs cells slots Q (F0 m pc ls (st.map (qv (qad H0.size sC)))) := by
  have hls : c.maxLocals = ls.size := hml.trans hlv.1.symm
  unfold q_step at hstep
  split at hstep
  · cases hstep
  · rename_i i len hd
    split at hstep
    · rename_i hlok
      have hle := q_lok_eq hlok
      split at hstep
      · rename_i st2 hop
        have hlen : len = q_len i := by
          rcases hle with q | ⟨a, b, d, f, q⟩ | ⟨a, b, q⟩
          · exact q
          · rw [q] at hop; cases hop
          · rw [q] at hop; cases hop
        cases hstep
        exact q_op_W (qad H0.size sC) hx hb hd hlen hop (kk H locs cells slots ls hlv w hlo hc hsl)
      · split at hstep
        · rename_i env2 st2 hloc
          have hlen : len = q_len i := by
            rcases hle with q | ⟨a, b, d, f, q⟩ | ⟨a, b, q⟩
            · exact q
            · rw [q] at hloc; cases hloc
            · rw [q] at hloc; cases hloc
          cases hstep
          exact q_loc_W (qad H0.size sC) hx hb hd hlen hloc hlv (fun ls' hl' => kk H locs cells slots ls' hl' w hlo hc hsl)
        · split at hstep
          · rename_i pc2 st2 hj
            cases hstep
            exact q_jmp_W (qad H0.size sC) hx hb hd hle hj (kk H locs cells slots ls hlv w hlo hc hsl)
          · split at hstep
            · rename_i st2 h2 hm
              have hlen : len = q_len i := by
                rcases hle with q | ⟨a, b, d, f, q⟩ | ⟨a, b, q⟩
                · exact q
                · rw [q] at hm; cases hm
                · rw [q] at hm; cases hm
              cases hstep
              exact q_mem_W hx hb hG hown hA hs0 hs1 (fun q => hin (beq_iff_eq.mp q)) hls w hlo hc hsl hRc hRs hRf hRl hd hlen hm (fun H1 locs1 cells1 slots1 w1 l1 c1 s1 => kk H1 locs1 cells1 slots1 ls hlv w1 l1 c1 s1)
            · cases hstep
    · cases hstep
end QSP
