/-! THE LAW'S MACHINE: its own steps, calls by q_run, the wrappers by q_wr -/
def qML : qM := (1, 12, code, 8, ret, 1, x)
def q_lw (M : qM) (N d : Nat) : Nat → Nat → qL → List Value → qH → Option qH
  | 0, _, _, _, _ => none
  | F + 1, pc, env, st, h => match q_step M pc env st h with
    | some (pc', env', st', h') => q_lw M N d F pc' env' st' h'
    | none => match decode M.2.2.1 pc with
      | .error _ => none
      | .ok (i, len) => if i = .ireturn ∧ len = 1 then (if st = [.int 1] then some h else none) else (match q_inv M.2.1 i st h with
        | some (k, as, r) => if len = 3 ∧ (lg_sl as).length ≤ (q_ms k).2.2.2.1 ∧ (q_ms k).2.2.2.1 ≤ 80 ∧ (r.map fun v => v.category).sum ≤ 8 then (match q_run N d (q_ms k) 0 (lv_args 0 as) [] h with
          | some (.inl v, h') => q_lw M N d F (pc + 3) env (v.toList ++ r) h'
          | _ => none) else none
        | none => match i with
          | .invokestatic idx => match q_wl idx with
            | some k => if len = 3 ∧ (q_wm k).1.2.2.2.2.2.1 ≤ st.length ∧ (lg_sl (st.take (q_wm k).1.2.2.2.2.2.1).reverse).length ≤ (q_wm k).1.2.2.2.1 ∧ (q_wm k).1.2.2.2.1 ≤ 80 ∧ ((st.drop (q_wm k).1.2.2.2.2.2.1).map fun v => v.category).sum ≤ 8 then (match q_wr N d (q_wm k) N 0 (lv_args 0 (st.take (q_wm k).1.2.2.2.2.2.1).reverse) [] h with
              | some (v, h') => q_lw M N d F (pc + 3) env (v.toList ++ st.drop (q_wm k).1.2.2.2.2.2.1) h'
              | none => none) else none
            | none => none
          | _ => none)
theorem q_lw_mono {M : qM} {N d : Nat} : ∀ (F pc : Nat) (env : qL) (st : List Value) (h : qH) (h' : qH), q_lw M N d F pc env st h = some h' → h.2.1 ≤ h'.2.1 ∧ h.2.2 ≤ h'.2.2 := by
  intro F
  induction F with
  | zero => intro pc env st h h' hr; cases hr
  | succ F ih =>
    intro pc env st h h' hr
    unfold q_lw at hr
    split at hr
    · rename_i hs
      have h1 := q_step_mono hs
      have h2 := ih _ _ _ _ _ hr
      exact ⟨Nat.le_trans h1.1 h2.1, Nat.le_trans h1.2 h2.2⟩
    · split at hr
      · cases hr
      · split at hr
        · split at hr
          · cases hr; exact ⟨Nat.le_refl _, Nat.le_refl _⟩
          · cases hr
        · split at hr
          · split at hr
            · split at hr
              · rename_i hc
                have h1 := q_run_mono _ _ _ _ _ _ _ _ _ hc
                have h2 := ih _ _ _ _ _ hr
                exact ⟨Nat.le_trans h1.1 h2.1, Nat.le_trans h1.2 h2.2⟩
              · cases hr
            · cases hr
          · split at hr
            · split at hr
              · split at hr
                · split at hr
                  · rename_i hc
                    have h1 := q_wr_mono _ _ _ _ _ _ _ hc
                    have h2 := ih _ _ _ _ _ hr
                    exact ⟨Nat.le_trans h1.1 h2.1, Nat.le_trans h1.2 h2.2⟩
                  · cases hr
                · cases hr
              · cases hr
            · cases hr
def R_law : String := "PatternTrierLaw"
def lw_P (b : Addr) (xs : List Int32) (args : Array Value) (s : State) : Prop := args = #[.ref b] ∧ s.IntsAt b xs ∧ xs.length ≤ 3072 ∧ (Jvm.Cond.and given_1 narrow_1).before args s = true
def lw_Q (_ : Array Value) (s : State) (o : Outcome) (t : State) : Prop := o = .returned (some (.int 1)) ∧ Framed s o t [] 601024 7293034
def lw_Z (below : List Frame) (a : Array Value) (s : State) : State → Prop := fun t => ∃ o, t.status = .running ∧ Ended t below o ∧ lw_Q a s o t
/-- the law's own end, with 1 on the stack, nothing written that was there before, its room as the claim has it -/
theorem lw_ret {p : Program} {l : Launch} {e : Env} {s : State} {m : MethodId} {below : List Frame} {meth : Method} {c : Code} {b : Nat} (hx : p.tables.exec = Jvm.exec) (hb : c.code = code) (hr : meth.sig.returnType = ret) (hlocks : meth.locks = false) {pc : Nat} {H : Heap} {ls : Array Slot} (hdg : decode code pc = .ok (.ireturn, 1)) : W p l e room_1 s m #[Value.ref b] below meth c H [] 601024 7293034 (lw_Z below #[Value.ref b] s) (F0 m pc ls [.int 1]) := by
  intro T hT X
  obtain ⟨fs, hret, hrun, hended, hW, hframe⟩ := X.leave (v := some (.int 1)) (hlocks := hlocks) (fun h => by rw [hr] at h; cases h)
  have hmeth' : T.vm.method? m = some meth := X.method'
  refine ⟨T.setFrames fs, ?_, .returned (some (.int 1)), hrun, hended, rfl, ⟨_, rfl⟩, hW, hframe⟩
  jvm_step X.here [X.here.top, hx, hb, hdg, hmeth', hr, ret, narrow_b1]
  (try refine ⟨rfl, ?_⟩); (try refine ⟨rfl, ?_⟩)
  first | (intro acts; rw [hret _ acts rfl rfl rfl]) | rw [hret _ _ rfl rfl rfl]
  exact Steps.refl _
/-- what holds at the law's entry: the machine, the code, the tables' words (any of lw_tbl by 'hts w (by decide +kernel)'), the script of L ints xs at the cell b, what the Statement gives of the start (any of its parts by flat_of_before) -/
def lw_At (p : Program) (s : State) (m : MethodId) (meth : Method) (c : Code) (b L : Nat) (xs : Nat → Int32) : Prop :=
  p.tables.exec = Jvm.exec ∧ c.code = code ∧ meth.sig.returnType = ret ∧ c.maxLocals = 8 ∧ s.vm.findClass R_law = some m.cls ∧ (∀ w ∈ lw_tbl, w.before #[Value.ref b] s = true) ∧ va_X b L xs s s.heap ∧ b < s.heap.size ∧ meth.locks = false ∧ (Jvm.Cond.and given_1 narrow_1).before #[Value.ref b] s = true
section QLW
variable {p : Program} {l : Launch} {e : Env} {s : State} {m : MethodId} {below : List Frame} {meth : Method} {c : Code}
variable {D : va_G} {dA : Nat → ClassId} {sC : qS}
set_option maxHeartbeats 4000000 in
theorem q_lw_W (hl : l.stackTraces = false) {M : qM} {N d b : Nat} (hd8 : d ≤ 200) (hk1 : M.1 = 1) (hk2 : M.2.1 = 12) (hk4 : M.2.2.2.1 = 8) (hx : p.tables.exec = Jvm.exec) (hb : c.code = M.2.2.1) (hml : c.maxLocals = 8) (hG : ∀ w ∈ GW, w.before #[Value.ref b] s = true) (hown : s.vm.findClass RL = some m.cls) (hA : qAmb D dA sC s.heap s) (hNC : q_NC s) (hret : ∀ (pc : Nat) (H : Heap) (ls : Array Slot), decode M.2.2.1 pc = .ok (.ireturn, 1) → W p l e room_1 s m #[Value.ref b] below meth c H [] 601024 7293034 (lw_Z below #[Value.ref b] s) (F0 m pc ls [.int 1])) :
    ∀ (F pc : Nat) (env : qL) (st : List Value) (h h' : qH), q_lw M N d F pc env st h = some h' → h'.2.1 ≤ 601024 → h'.2.2 ≤ 7293034 →
    ∀ (H : Heap) (locs : List Loc) (cells slots : Nat) (ls : Array Slot), lv_has ls 8 (qm (qad s.heap.size sC) env) → qW D dA sC s.heap h H → (∀ z ∈ locs, s.heap.size ≤ z.base) → cells = h.2.1 → slots = h.2.2 →
    W p l e room_1 s m #[Value.ref b] below meth c H locs cells slots (lw_Z below #[Value.ref b] s) (F0 m pc ls (st.map (qv (qad s.heap.size sC)))) := by
  have hml4 : c.maxLocals = M.2.2.2.1 := by rw [hml, hk4]
  have hownN : s.vm.findClass (oN M.2.1) = some m.cls := by rw [hk2]; exact hown
  intro F
  induction F with
  | zero => intro pc env st h h' hrun; cases hrun
  | succ F ih =>
    intro pc env st h h' hrun hn' hs' H locs cells slots ls hlv w hlo hc hsl
    have hRf : 8 * (d + 1) + 1 ≤ room_1.frames := by show _ ≤ 2048; omega
    have hRl : 100 * (d + 1) + 100 ≤ room_1.locals := by show _ ≤ 84000; omega
    have hmono := q_lw_mono _ _ _ _ _ _ hrun
    unfold q_lw at hrun
    split at hrun
    · rename_i pc' env' st' h2 hs
      have hm2 := q_lw_mono _ _ _ _ _ _ hrun
      exact q_step_W (M := M) (n0 := 0) (s0 := 0) hs hx hb hml4 hG hownN hA (fun _ _ => rfl) (Nat.le_refl _) (fun q => by rw [hk1] at q; cases q) (by rw [hk4]; exact hlv) w hlo (by omega) (by omega) (by show _ ≤ 601024 + 0; omega) (by show _ ≤ 7293034 + 0; omega) (by omega) (by omega) (fun H1 locs1 cells1 slots1 ls1 a1 a2 a3 a4 a5 => ih _ _ _ _ _ hrun hn' hs' H1 locs1 cells1 slots1 ls1 (by rw [hk4] at a1; exact a1) a2 a3 (by omega) (by omega))
    · split at hrun
      · cases hrun
      · rename_i i len hd
        split at hrun
        · rename_i hi
          obtain ⟨rfl, rfl⟩ := hi
          split at hrun
          · rename_i hst
            cases hrun
            subst hst
            refine va_forget hlo ?_
            refine W.widen (k := 601024) (n := 7293034) (by omega) (by omega) ?_
            exact hret _ _ _ hd
          · cases hrun
        · split at hrun
          · rename_i k as r hinv
            split at hrun
            · rename_i hcond
              obtain ⟨hlen, c1, c2, c3⟩ := hcond
              subst hlen
              split at hrun
              · rename_i v1 h1 hcr
                have hm1 := q_run_mono _ _ _ _ _ _ _ _ _ hcr
                have hm2 := q_lw_mono _ _ _ _ _ _ hrun
                exact q_calls_W (M := M) hl hx hb hml4 hG hownN hA (hlv.1.trans hk4.symm) w hlo hd hinv c1 c2 c3 hcr hRf hRl (by show _ ≤ 601024; omega) (by show _ ≤ 7293034; omega) (fun H1 locs1 w1 l1 => ih _ _ _ _ _ hrun hn' hs' H1 locs1 _ _ ls hlv w1 l1 (by omega) (by omega))
              · cases hrun
            · cases hrun
          · split at hrun
            · rename_i idx
              split at hrun
              · rename_i k hk
                split at hrun
                · rename_i hcond
                  obtain ⟨hlen, hst, c1, c2, c3⟩ := hcond
                  subst hlen
                  split at hrun
                  · rename_i v1 h1 hcr
                    have hm1 := q_wr_mono _ _ _ _ _ _ _ hcr
                    have hm2 := q_lw_mono _ _ _ _ _ _ hrun
                    obtain ⟨hwk, hln⟩ := q_wl_ok hk
                    have hmet := q_wmet (D := D) (dA := dA) (sC := sC) (H0 := s.heap) hl hwk hcr c1
                    have hcat := q_cats (ad := qad s.heap.size sC) c3
                    generalize has : (st.take (q_wm k).1.2.2.2.2.2.1).reverse = as at *
                    generalize hrr : st.drop (q_wm k).1.2.2.2.2.2.1 = r at *
                    have hna : as.length = (q_wm k).1.2.2.2.2.2.1 := by rw [← has, List.length_reverse, List.length_take]; exact Nat.min_eq_left hst
                    have hste : st = as.reverse ++ r := by rw [← has, ← hrr, List.reverse_reverse, List.take_append_drop]
                    have hp : ∀ (U : State), U.heap = H → s.WarmedH U.vm → q_preC D dA sC s.heap as h (as.map (qv (qad s.heap.size sC))).toArray U := fun U hU hW => ⟨⟨rfl, by rw [hU]; exact w, hA.warm hW⟩, hNC.warm hW⟩
                    rw [hste, q_stk0]
                    refine q_callR (a := (as.map (qv (qad s.heap.size sC))).toArray) (vx_runSW (n := (q_wm k).1.2.2.2.2.2.1) (hh := (q_wm k).2) (nL := 8) (Ts := GW) (own := RL) ⟨hx, hb, hml, hown, hG⟩ hmet (vx_cwSW (Ts := GW) (q_wm k).1.2.2.2.2.2.1 hG (q_good (fun z hz => ?_)) rfl rfl rfl hwk.2.2.2.2.1 ⟨?_, ?_⟩) ⟨q_preC_blind D dA sC s.heap _ h, hp⟩ rfl (by rw [List.length_map]; exact hna) hlv.1 rfl (lv_room hcat) hd ⟨by show _ ≤ 601024; omega, by show _ ≤ 7293034; omega⟩) hlo (fun H1 locs1 w1 l1 => ?_)
                    · unfold va_wsS at hz
                      rcases List.mem_append.mp hz with q | q
                      · simp only [List.mem_cons, List.not_mem_nil, or_false] at q
                        rcases q with rfl | rfl | rfl
                        · exact hln
                        · exact hwk.2.2.2.2.2.2.2
                        · exact hwk.2.2.2.2.2.2.1
                      · rcases List.mem_cons.mp q with rfl | q
                        · exact hwk.2.2.2.2.2.1
                        · exact q
                    · show 8 * (d + 1 + 1) + 1 ≤ 2048; omega
                    · show 8 + ((q_wm k).1.2.2.2.1 + 11) + 100 * (d + 1 + 1) ≤ 84000; omega
                    · rw [← q_stkv]
                      exact ih _ _ _ _ _ hrun hn' hs' H1 locs1 _ _ ls hlv w1 l1 (by omega) (by omega)
                  · cases hrun
                · cases hrun
              · cases hrun
            · cases hrun
end QLW
