/-! calls out of bodies with tables; the wrappers' machine -/
section QCB
variable {p : Program} {l : Launch} {e : Env} {R : Room} {s : State} {m : MethodId} {args : Array Value} {below : List Frame} {meth : Method} {c : Code} {H : Heap} {locs : List Loc} {cells slots : Nat} {Q : State → Prop}
variable {pc : Nat} {ls : Array Slot} {D : va_G} {dA : Nat → ClassId} {sC : qS} {H0 : Heap}
theorem q_callC {mc ms : Nat} {st0 rest : List Value} {E : String} {h1 : qH} {a : Array Value} (hr : vx_Run p l e R s m args below meth c H locs cells slots mc ms (F0 m pc ls st0) rest ((fun _ _ _ _ => False : Array Value → State → Outcome → State → Prop) a) (q_XC D dA sC H0 E h1) (fun q => H0.size ≤ q)) (hlo : ∀ z ∈ locs, H0.size ≤ z.base)
    (kx : ∀ (H1 : Heap) (locs1 : List Loc) (q : Addr) (ce : Cell), qW D dA sC H0 h1 H1 → (∀ z ∈ locs1, H0.size ≤ z.base) → H1[q]? = some ce → ce.vm = .none → s.vm.findClass E = some ce.cls → vx_W p l e R s m args below meth c H1 locs1 (cells + mc) (slots + ms) Q (F0 m pc ls rest) q) :
    W p l e R s m args below meth c H locs cells slots Q (F0 m pc ls st0) := by
  intro T hT X
  rcases hr T hT X with ⟨v, st₀, t, T', L, h0, X', hL, e1, e2, hf, st⟩ | ⟨q, st₀, t, T', L, E', ce, h0, X', hL, e1, e2, hX, hq, hv, hcl, st⟩
  · exact hf.elim
  · obtain ⟨rfl, hw⟩ := hX
    obtain ⟨t2, a1, b1⟩ := kx T'.heap (locs ++ L) q ce (by rw [e1]; exact hw) (fun z hz => by
      rcases List.mem_append.mp hz with q | q
      · exact hlo z q
      · exact hL z q) (by rw [e1]; exact hq) hv hcl T' rfl X'
    exact ⟨t2, st.trans a1, b1⟩
/-- a call that returns -/
theorem q_calls_W (hl : l.stackTraces = false) {M : qM} {N d k : Nat} {i : Instr} {st as r : List Value} {h h1 : qH} {v : Option Value} (hx : p.tables.exec = Jvm.exec) (hb : c.code = M.2.2.1) (hml : c.maxLocals = M.2.2.2.1) (hG : ∀ w ∈ GW, w.before args s = true) (hown : s.vm.findClass (oN M.2.1) = some m.cls) (hA : qAmb D dA sC H0 s) (hsz : ls.size = M.2.2.2.1)
    (w : qW D dA sC H0 h H) (hlo : ∀ z ∈ locs, H0.size ≤ z.base) (hd : decode M.2.2.1 pc = .ok (i, 3)) (hinv : q_inv M.2.1 i st h = some (k, as, r)) (c1 : (lg_sl as).length ≤ (q_ms k).2.2.2.1) (c2 : (q_ms k).2.2.2.1 ≤ 80) (c3 : (r.map fun v => v.category).sum ≤ 8) (hcr : q_run N d (q_ms k) 0 (lv_args 0 as) [] h = some (.inl v, h1))
    (hRf : 8 * (d + 1) + 1 ≤ R.frames) (hRl : 100 * (d + 1) + 100 ≤ R.locals) (hRc : cells + (h1.2.1 - h.2.1) ≤ R.cells) (hRs : slots + (h1.2.2 - h.2.2) ≤ R.slots)
    (kk : ∀ (H1 : Heap) (locs1 : List Loc), qW D dA sC H0 h1 H1 → (∀ z ∈ locs1, H0.size ≤ z.base) → W p l e R s m args below meth c H1 locs1 (cells + (h1.2.1 - h.2.1)) (slots + (h1.2.2 - h.2.2)) Q (F0 m (pc + 3) ls ((v.toList ++ r).map (qv (qad H0.size sC))))) :
    W p l e R s m args below meth c H locs cells slots Q (F0 m pc ls (st.map (qv (qad H0.size sC)))) := by
  have hcat := q_cats (ad := qad H0.size sC) c3
  have hR : ∀ mc ms : Nat, (q_rm d mc ms).frames + 1 ≤ R.frames ∧ 8 + ((q_ms k).2.2.2.1 + 11) + (q_rm d mc ms).locals ≤ R.locals := fun mc ms => ⟨by show 8 * (d + 1) + 1 ≤ _; omega, by show 8 + ((q_ms k).2.2.2.1 + 11) + 100 * (d + 1) ≤ _; omega⟩
  have hp : ∀ (U : State), U.heap = H → s.WarmedH U.vm → q_pre D dA sC H0 as h (as.map (qv (qad H0.size sC))).toArray U := fun U hU hW => ⟨rfl, by rw [hU]; exact w, hA.warm hW⟩
  have hfit : cells + (h1.2.1 - h.2.1) ≤ R.cells ∧ slots + (h1.2.2 - h.2.2) ≤ R.slots := ⟨hRc, hRs⟩
  have ih : q_Body l D dA sC H0 N := q_body hl N
  have fin : ∀ (H1 : Heap) (locs1 : List Loc), qW D dA sC H0 h1 H1 → (∀ z ∈ locs1, H0.size ≤ z.base) → W p l e R s m args below meth c H1 locs1 (cells + (h1.2.1 - h.2.1)) (slots + (h1.2.2 - h.2.2)) Q (F0 m (pc + 3) ls ((v.map (qv (qad H0.size sC))).toList ++ r.map (qv (qad H0.size sC)))) := fun H1 locs1 w1 l1 => by
    rw [← q_stkv]
    exact kk H1 locs1 w1 l1
  rcases q_inv_eq hinv with ⟨idx, b, as', vs, rfl, hk, k0, rfl, hna, rfl, hbb, hlt⟩ | ⟨idx, b, as', rfl, hk, k2, rfl, hna, rfl⟩ | ⟨idx, rfl, hk, k13, hna, rfl⟩
  · obtain ⟨hMk, hn3, hln⟩ := q_mth_ok hk
    have hmet := q_metR ih hMk hcr c1
    have hcl : (q_ms k).2.2.2.2.2.2.cls = qC (q_ms k).2.1 := by rw [← hMk.1, q_oN hlt]
    obtain ⟨rr, g1, cell, g2, g3, g4, -⟩ := w.ob hbb
    have hKb := (hA.1.1 (q_ms k).2.1 _ (q_cl _ hlt)).2.1
    obtain ⟨v0, v1⟩ := hMk.2.2.2.2.2.1 k0
    rw [q_stk]
    refine q_callR (a := (Value.ref (qad H0.size sC b) :: as'.map (qv (qad H0.size sC))).toArray) (va_runV (C := (q_ms k).2.2.2.2.2.2.cls) (n := (q_ms k).2.2.2.2.2.1) ⟨hx, hb, hml, hown, hG⟩ hmet (cwV (Ts := GW) (q_ms k).2.2.2.2.2.1 hG (q_good (fun z hz => ?_)) rfl rfl rfl ⟨rfl, hMk.2.2.1⟩ (hR _ _)) ⟨q_pre_blind D dA sC H0 _ h, ⟨cell, g2, by rw [g4]; rfl, by rw [hcl, g3]; exact hKb⟩, hp⟩ rfl (by rw [List.length_map]; exact hna) hsz rfl (lv_room hcat) hd hfit) hlo fin
    unfold wsV at hz
    rcases List.mem_append.mp hz with q | q
    · simp only [List.mem_cons, List.not_mem_nil, or_false] at q
      rcases q with rfl | rfl | rfl | rfl
      · exact hln (by rw [k0]; decide)
      · exact v0
      · exact v1
      · exact hMk.2.2.2.2.1
    · rcases List.mem_cons.mp q with rfl | q
      · exact hMk.2.2.2.1
      · exact q
  · obtain ⟨hMk, hn3, hln⟩ := q_mth_ok hk
    have hmet := q_metR ih hMk hcr c1
    obtain ⟨v0, v1, v2⟩ := hMk.2.2.2.2.2.2.2 k2
    have hgd := q_ws_good hMk
    have hcn : q_ws (q_ms k) = Cond.code (q_ms k).2.2.2.2.2.2 (q_ms k).2.2.1 (q_ms k).2.2.2.1 none :: GW := by unfold q_ws; rw [v2]
    rw [q_stk]
    exact q_callR (a := (Value.ref (qad H0.size sC b) :: as'.map (qv (qad H0.size sC))).toArray) (va_runI (n := (q_ms k).2.2.2.2.2.1) ⟨hx, hb, hml, hown, hG⟩ hmet (cwI (Ts := GW) (q_ms k).2.2.2.2.2.1 hG hgd hcn rfl rfl (hG _ hMk.2.2.2.2.1) (hG _ (hln (by rw [k2]; decide))) (hG _ v0) v1 hMk.2.2.1 (hR _ _)) ⟨q_pre_blind D dA sC H0 _ h, hp⟩ rfl (by rw [List.length_map]; exact hna) hsz rfl (lv_room hcat) hd hfit) hlo fin
  · obtain ⟨hMk, hn3, hln⟩ := q_mth_ok hk
    have hmet := q_metR ih hMk hcr c1
    have hst9 := hMk.2.2.2.2.2.2.1 k13
    rw [q_stk0]
    by_cases k3 : (q_ms k).1 = 3
    · exact q_callR (a := (as.map (qv (qad H0.size sC))).toArray) (va_runSN (n := (q_ms k).2.2.2.2.2.1) ⟨hx, hb, hml, hown, hG⟩ hmet ⟨va_cnB (q_ms k).2.2.2.2.2.1 hG (q_ws_good hMk) rfl rfl rfl (hA.2.1 _ (List.mem_append_left _ (hn3 k3))) (hG _ hMk.2.2.2.2.1) hMk.2.2.1 (hR _ _), hG _ hst9, trivial⟩ ⟨q_pre_blind D dA sC H0 _ h, hp⟩ rfl (by rw [List.length_map]; exact hna) hsz rfl (lv_room hcat) hd hfit) hlo fin
    · refine q_callR (a := (as.map (qv (qad H0.size sC))).toArray) (va_runS (n := (q_ms k).2.2.2.2.2.1) ⟨hx, hb, hml, hown, hG⟩ hmet (va_cwS (Ts := GW) (q_ms k).2.2.2.2.2.1 hG (q_good (fun z hz => ?_)) rfl rfl rfl hMk.2.2.1 (hR _ _)) ⟨q_pre_blind D dA sC H0 _ h, hp⟩ rfl (by rw [List.length_map]; exact hna) hsz rfl (lv_room hcat) hd hfit) hlo fin
      unfold va_wsS at hz
      rcases List.mem_append.mp hz with q | q
      · simp only [List.mem_cons, List.not_mem_nil, or_false] at q
        rcases q with rfl | rfl | rfl
        · exact hln k3
        · exact hst9
        · exact hMk.2.2.2.2.1
      · rcases List.mem_cons.mp q with rfl | q
        · exact hMk.2.2.2.1
        · exact q
/-- a virtual call that throws -/
theorem q_callsX_W (hl : l.stackTraces = false) {M : qM} {N d k : Nat} {i : Instr} {st as r : List Value} {h h1 : qH} {E : String} (hx : p.tables.exec = Jvm.exec) (hb : c.code = M.2.2.1) (hml : c.maxLocals = M.2.2.2.1) (hG : ∀ w ∈ GW, w.before args s = true) (hown : s.vm.findClass (oN M.2.1) = some m.cls) (hA : qAmb D dA sC H0 s) (hsz : ls.size = M.2.2.2.1)
    (w : qW D dA sC H0 h H) (hlo : ∀ z ∈ locs, H0.size ≤ z.base) (hd : decode M.2.2.1 pc = .ok (i, 3)) (hinv : q_inv M.2.1 i st h = some (k, as, r)) (k00 : (q_ms k).1 = 0) (c1 : (lg_sl as).length ≤ (q_ms k).2.2.2.1) (c2 : (q_ms k).2.2.2.1 ≤ 80) (c3 : (r.map fun v => v.category).sum ≤ 8) (hcr : q_run N d (q_ms k) 0 (lv_args 0 as) [] h = some (.inr E, h1))
    (hRf : 8 * (d + 1) + 1 ≤ R.frames) (hRl : 100 * (d + 1) + 100 ≤ R.locals) (hRc : cells + (h1.2.1 - h.2.1) ≤ R.cells) (hRs : slots + (h1.2.2 - h.2.2) ≤ R.slots)
    (kx : ∀ (H1 : Heap) (locs1 : List Loc) (q : Addr) (ce : Cell), qW D dA sC H0 h1 H1 → (∀ z ∈ locs1, H0.size ≤ z.base) → H1[q]? = some ce → ce.vm = .none → s.vm.findClass E = some ce.cls → vx_W p l e R s m args below meth c H1 locs1 (cells + (h1.2.1 - h.2.1)) (slots + (h1.2.2 - h.2.2)) Q (F0 m pc ls (r.map (qv (qad H0.size sC)))) q) :
    W p l e R s m args below meth c H locs cells slots Q (F0 m pc ls (st.map (qv (qad H0.size sC)))) := by
  have hcat := q_cats (ad := qad H0.size sC) c3
  have hR : ∀ mc ms : Nat, (q_rm d mc ms).frames + 1 ≤ R.frames ∧ 8 + ((q_ms k).2.2.2.1 + 11) + (q_rm d mc ms).locals ≤ R.locals := fun mc ms => ⟨by show 8 * (d + 1) + 1 ≤ _; omega, by show 8 + ((q_ms k).2.2.2.1 + 11) + 100 * (d + 1) ≤ _; omega⟩
  have hp : ∀ (U : State), U.heap = H → s.WarmedH U.vm → q_pre D dA sC H0 as h (as.map (qv (qad H0.size sC))).toArray U := fun U hU hW => ⟨rfl, by rw [hU]; exact w, hA.warm hW⟩
  have hfit : cells + (h1.2.1 - h.2.1) ≤ R.cells ∧ slots + (h1.2.2 - h.2.2) ≤ R.slots := ⟨hRc, hRs⟩
  have ih : q_Body l D dA sC H0 N := q_body hl N
  rcases q_inv_eq hinv with ⟨idx, b, as', vs, rfl, hk, k0, rfl, hna, rfl, hbb, hlt⟩ | ⟨idx, b, as', rfl, hk, k2, rfl, hna, rfl⟩ | ⟨idx, rfl, hk, k13, hna, rfl⟩
  · obtain ⟨hMk, hn3, hln⟩ := q_mth_ok hk
    have hmet := q_metX ih hMk hcr c1
    have hcl : (q_ms k).2.2.2.2.2.2.cls = qC (q_ms k).2.1 := by rw [← hMk.1, q_oN hlt]
    obtain ⟨rr, g1, cell, g2, g3, g4, -⟩ := w.ob hbb
    have hKb := (hA.1.1 (q_ms k).2.1 _ (q_cl _ hlt)).2.1
    obtain ⟨v0, v1⟩ := hMk.2.2.2.2.2.1 k0
    rw [q_stk]
    refine q_callC (a := (Value.ref (qad H0.size sC b) :: as'.map (qv (qad H0.size sC))).toArray) (vx_runV (C := (q_ms k).2.2.2.2.2.2.cls) (n := (q_ms k).2.2.2.2.2.1) ⟨hx, hb, hml, hown, hG⟩ hmet (cwV (Ts := GW) (q_ms k).2.2.2.2.2.1 hG (q_good (fun z hz => ?_)) rfl rfl rfl ⟨rfl, hMk.2.2.1⟩ (hR _ _)) ⟨q_pre_blind D dA sC H0 _ h, ⟨cell, g2, by rw [g4]; rfl, by rw [hcl, g3]; exact hKb⟩, hp⟩ rfl (by rw [List.length_map]; exact hna) hsz rfl (lv_room hcat) hd hfit) hlo kx
    unfold wsV at hz
    rcases List.mem_append.mp hz with q | q
    · simp only [List.mem_cons, List.not_mem_nil, or_false] at q
      rcases q with rfl | rfl | rfl | rfl
      · exact hln (by rw [k0]; decide)
      · exact v0
      · exact v1
      · exact hMk.2.2.2.2.1
    · rcases List.mem_cons.mp q with rfl | q
      · exact hMk.2.2.2.1
      · exact q
  · rw [k2] at k00; cases k00
  · rcases k13 with q | q
    · rw [q] at k00; cases k00
    · rw [q] at k00; cases k00
end QCB
/-- the first row of a table that covers pc and names E: where it goes on -/
def q_han : qHT → Nat → String → Option Nat
  | [], _, _ => none
  | x :: t, pc, E => if x.1 ≤ pc ∧ pc < x.2.1 then (match q_ct x.2.2.2 with
    | some E' => if E' = E then some x.2.2.1 else q_han t pc E
    | none => none) else q_han t pc E
theorem q_han_eq {pc : Nat} {E : String} : ∀ {hh : qHT} {hp : Nat}, q_han hh pc E = some hp → ∃ (pre : List ExceptionTableEntry) (x : ExceptionTableEntry) (suf : List ExceptionTableEntry), tableOf hh = pre ++ x :: suf ∧ x.handlerPc = hp ∧ covers x pc = true ∧ q_ct x.catchType = some E ∧ ∀ z ∈ pre, covers z pc = false ∨ ∃ E', q_ct z.catchType = some E' ∧ E' ≠ E := by
  intro hh
  induction hh with
  | nil => intro hp h; cases h
  | cons y t ih =>
    intro hp h
    have hc : ∀ (c : Bool), covers (⟨y.1, y.2.1, y.2.2.1, y.2.2.2⟩ : ExceptionTableEntry) pc = c ↔ (decide (y.1 ≤ pc) && decide (pc < y.2.1)) = c := fun c => Iff.rfl
    unfold q_han at h
    split at h
    · rename_i hcov
      split at h
      · rename_i E' hE
        split at h
        · rename_i he
          cases h
          subst he
          exact ⟨[], ⟨y.1, y.2.1, y.2.2.1, y.2.2.2⟩, tableOf t, rfl, rfl, (hc true).mpr (by simp [hcov]), hE, fun z hz => by cases hz⟩
        · rename_i he
          obtain ⟨pre, x, suf, h1, h2, h3, h4, h5⟩ := ih h
          refine ⟨⟨y.1, y.2.1, y.2.2.1, y.2.2.2⟩ :: pre, x, suf, ?_, h2, h3, h4, fun z hz => ?_⟩
          · show _ :: tableOf t = _
            rw [h1]; rfl
          · rcases List.mem_cons.mp hz with rfl | q
            · exact Or.inr ⟨E', hE, he⟩
            · exact h5 z q
      · cases h
    · rename_i hcov
      obtain ⟨pre, x, suf, h1, h2, h3, h4, h5⟩ := ih h
      refine ⟨⟨y.1, y.2.1, y.2.2.1, y.2.2.2⟩ :: pre, x, suf, ?_, h2, h3, h4, fun z hz => ?_⟩
      · show _ :: tableOf t = _
        rw [h1]; rfl
      · rcases List.mem_cons.mp hz with rfl | q
        · refine Or.inl ((hc false).mpr ?_)
          simpa using hcov
        · exact h5 z q
/-- the exceptions are apart -/
def q_NC (U : State) : Prop := ∀ E ∈ q_EX, ∀ E' ∈ q_EX, E ≠ E' → va_Nc E E' U
theorem q_NC.warm {s U : State} (hW : s.WarmedH U.vm) (h : q_NC s) : q_NC U := fun E hE E' hE' hn => va_Nc.moved hW.alike (h E hE E' hE' hn)
def q_rmv (env : qL) (j : Nat) : qL := env.filter (fun q => !(q.1 == j) && !(q.1 + 1 == j && q.2.category == 2))
theorem qm_rmv (ad : Nat → Nat) (env : qL) (j : Nat) : (qm ad env).filter (fun q => !(q.1 == j) && !(q.1 + 1 == j && q.2.category == 2)) = qm ad (q_rmv env j) := by
  have h := qm_set ad env j (.int 0)
  exact (List.cons.inj h).2
/-- THE WRAPPERS' MACHINE: F steps of its own, callees by q_run N d -/
def q_wr (N d : Nat) (w : qM × qHT) : Nat → Nat → qL → List Value → qH → Option (Option Value × qH)
  | 0, _, _, _, _ => none
  | F + 1, pc, env, st, h => match q_step w.1 pc env st h with
    | some (pc', env', st', h') => q_wr N d w F pc' env' st' h'
    | none => match decode w.1.2.2.1 pc with
      | .error _ => none
      | .ok (i, len) => match q_ret w.1.2.2.2.2.1 i st with
        | some v => if len = q_len i then some (v, h) else none
        | none => match q_inv w.1.2.1 i st h with
          | some (k, as, r) => if len = 3 ∧ (q_ms k).1 = 0 ∧ (lg_sl as).length ≤ (q_ms k).2.2.2.1 ∧ (q_ms k).2.2.2.1 ≤ 80 ∧ (r.map fun v => v.category).sum ≤ 8 then (match q_run N d (q_ms k) 0 (lv_args 0 as) [] h with
            | some (.inl v, h') => q_wr N d w F (pc + 3) env (v.toList ++ r) h'
            | some (.inr E, h') => match q_han w.2 pc E with
              | some hp => match decode w.1.2.2.1 hp with
                | .ok (.astore_n j, 1) => if (j : Nat) < w.1.2.2.2.1 then q_wr N d w F (hp + 1) (q_rmv env j) [] h' else none
                | .ok (.astore j, 2) => if j < w.1.2.2.2.1 then q_wr N d w F (hp + 2) (q_rmv env j) [] h' else none
                | _ => none
              | none => none
            | none => none) else none
          | none => none
theorem q_wr_mono {N d : Nat} {w : qM × qHT} : ∀ (F pc : Nat) (env : qL) (st : List Value) (h : qH) (v : Option Value) (h' : qH), q_wr N d w F pc env st h = some (v, h') → h.2.1 ≤ h'.2.1 ∧ h.2.2 ≤ h'.2.2 := by
  intro F
  induction F with
  | zero => intro pc env st h v h' hr; cases hr
  | succ F ih =>
    intro pc env st h v h' hr
    unfold q_wr at hr
    split at hr
    · rename_i hs
      have h1 := q_step_mono hs
      have h2 := ih _ _ _ _ _ _ hr
      exact ⟨Nat.le_trans h1.1 h2.1, Nat.le_trans h1.2 h2.2⟩
    · split at hr
      · cases hr
      · split at hr
        · split at hr
          · cases hr; exact ⟨Nat.le_refl _, Nat.le_refl _⟩
          · cases hr
        · split at hr
          · split at hr
            · split at hr
              · rename_i hc
                have h1 := q_run_mono _ _ _ _ _ _ _ _ _ hc
                have h2 := ih _ _ _ _ _ _ hr
                exact ⟨Nat.le_trans h1.1 h2.1, Nat.le_trans h1.2 h2.2⟩
              · rename_i hc
                have h1 := q_run_mono _ _ _ _ _ _ _ _ _ hc
                split at hr
                · split at hr
                  · split at hr
                    · have h2 := ih _ _ _ _ _ _ hr
                      exact ⟨Nat.le_trans h1.1 h2.1, Nat.le_trans h1.2 h2.2⟩
                    · cases hr
                  · split at hr
                    · have h2 := ih _ _ _ _ _ _ hr
                      exact ⟨Nat.le_trans h1.1 h2.1, Nat.le_trans h1.2 h2.2⟩
                    · cases hr
                  · cases hr
                · cases hr
              · cases hr
            · cases hr
          · cases hr
section QWR
variable {p : Program} {l : Launch} {e : Env} {s : State} {m : MethodId} {args : Array Value} {below : List Frame} {meth : Method} {c : Code}
variable {D : va_G} {dA : Nat → ClassId} {sC : qS} {H0 : Heap}
set_option maxHeartbeats 4000000 in
theorem q_wr_W (hl : l.stackTraces = false) {N d : Nat} {ww : qM × qHT} (hk1 : ww.1.1 = 1) (hk2 : ww.1.2.1 = 12) (hx : p.tables.exec = Jvm.exec) (hb : c.code = ww.1.2.2.1) (hml : c.maxLocals = ww.1.2.2.2.1) (hG : ∀ w ∈ GW, w.before args s = true) (hown : s.vm.findClass RL = some m.cls) (hA : qAmb D dA sC H0 s) (hNC : q_NC s) (hs0 : ∀ q, q < H0.size → s.heap[q]? = H0[q]?) (hs1 : H0.size ≤ s.heap.size) (hr : meth.sig.returnType = ww.1.2.2.2.2.1) (hlk : meth.locks = false) (hex : c.exceptionTable.toList = tableOf ww.2) :
    ∀ (F pc : Nat) (env : qL) (st : List Value) (h : qH) (v : Option Value) (h' : qH), q_wr N d ww F pc env st h = some (v, h') →
    ∀ (H : Heap) (locs : List Loc) (cells slots : Nat) (ls : Array Slot) (n0 s0 Rc Rs : Nat), lv_has ls ww.1.2.2.2.1 (qm (qad H0.size sC) env) → qW D dA sC H0 h H → (∀ z ∈ locs, H0.size ≤ z.base) → cells + n0 = h.2.1 → slots + s0 = h.2.2 → h'.2.1 = Rc + n0 → h'.2.2 = Rs + s0 →
    W p l e (q_rm (d + 1) Rc Rs) s m args below meth c H locs cells slots (MQ below (q_Qc D dA sC H0 v h') args s Rc Rs (fun q => H0.size ≤ q)) (F0 m pc ls (st.map (qv (qad H0.size sC)))) := by
  have hownN : s.vm.findClass (oN ww.1.2.1) = some m.cls := by rw [hk2]; exact hown
  intro F
  induction F with
  | zero => intro pc env st h v h' hrun; cases hrun
  | succ F ih =>
    intro pc env st h v h' hrun H locs cells slots ls n0 s0 Rc Rs hlv w hlo hc hsl hRc hRs
    have hf8 : 8 ≤ (q_rm (d + 1) Rc Rs).frames := by show 8 ≤ 8 * (d + 1 + 1); omega
    have hl100 : 100 ≤ (q_rm (d + 1) Rc Rs).locals := by show 100 ≤ 100 * (d + 1 + 1); omega
    have hRf : 8 * (d + 1) + 1 ≤ (q_rm (d + 1) Rc Rs).frames := by show 8 * (d + 1) + 1 ≤ 8 * (d + 1 + 1); omega
    have hRl : 100 * (d + 1) + 100 ≤ (q_rm (d + 1) Rc Rs).locals := by show 100 * (d + 1) + 100 ≤ 100 * (d + 1 + 1); omega
    unfold q_wr at hrun
    split at hrun
    · rename_i pc' env' st' h2 hs
      have hm2 := q_wr_mono _ _ _ _ _ _ _ hrun
      exact q_step_W hs hx hb hml hG hownN hA hs0 hs1 (fun q => by rw [hk1] at q; cases q) hlv w hlo hc hsl (by show _ ≤ Rc + n0; omega) (by show _ ≤ Rs + s0; omega) hf8 hl100 (fun H1 locs1 cells1 slots1 ls1 a1 a2 a3 a4 a5 => ih _ _ _ _ _ _ hrun H1 locs1 cells1 slots1 ls1 n0 s0 Rc Rs a1 a2 a3 a4 a5 hRc hRs)
    · split at hrun
      · cases hrun
      · rename_i i len hd
        split at hrun
        · rename_i v1 hv
          split at hrun
          · rename_i hlen
            cases hrun
            have e1 : cells = Rc := by omega
            have e2 : slots = Rs := by omega
            subst e1 e2 hlen
            rcases q_ret_eq hv with ⟨rfl, rfl, hrt, rfl⟩ | ⟨x, ty, rfl, rfl, hrt, hn, rfl⟩ | ⟨x, rfl, rfl, hrt, rfl⟩ | ⟨x, ty, rfl, rfl, hrt, hty, rfl⟩
            · exact W.vret hx hb (hr.trans hrt) (fun t ht _ => ⟨rfl, by rw [ht]; exact w⟩) hlo hd
            · exact W.zret hx hb (hr.trans hrt) hn (fun t ht _ => ⟨rfl, by rw [ht]; exact w⟩) hlo hd
            · exact W.lret hx hb (hr.trans hrt) (fun t ht _ => ⟨rfl, by rw [ht]; exact w⟩) hlo hd
            · exact W.aret hx hb (hr.trans hrt) hty (Or.inr ⟨_, rfl⟩) (fun t ht _ => ⟨rfl, by rw [ht]; exact w⟩) hlo hd
          · cases hrun
        · split at hrun
          · rename_i k as r hinv
            split at hrun
            · rename_i hcond
              obtain ⟨hlen, k0, c1, c2, c3⟩ := hcond
              subst hlen
              split at hrun
              · rename_i v1 h1 hcr
                have hm1 := q_run_mono _ _ _ _ _ _ _ _ _ hcr
                have hm2 := q_wr_mono _ _ _ _ _ _ _ hrun
                exact q_calls_W hl hx hb hml hG hownN hA hlv.1 w hlo hd hinv c1 c2 c3 hcr hRf hRl (by show _ ≤ Rc; omega) (by show _ ≤ Rs; omega) (fun H1 locs1 w1 l1 => ih _ _ _ _ _ _ hrun H1 locs1 _ _ ls n0 s0 Rc Rs hlv w1 l1 (by omega) (by omega) hRc hRs)
              · rename_i E h1 hcr
                have hm1 := q_run_mono _ _ _ _ _ _ _ _ _ hcr
                split at hrun
                · rename_i hp hhan
                  obtain ⟨pre, x, suf, t1, t2, t3, t4, t5⟩ := q_han_eq hhan
                  obtain ⟨x0, xE, xL⟩ := q_ct_ok t4
                  have hcast : (Cond.castable E E).before args s = true := va_Nw.use rfl (hA.2.1 _ (List.mem_append_right _ (List.mem_filter.mpr ⟨q_EX_cast E xE, rfl⟩)))
                  have hpass : ∀ z ∈ pre, covers z pc = false ∨ (z.catchType ≠ 0 ∧ ∃ nm : String, (Cond.classLink RL z.catchType nm).before args s = true ∧ va_Nc E nm s) := fun z hz => by
                    rcases t5 z hz with q | ⟨E', q1, q2⟩
                    · exact Or.inl q
                    · obtain ⟨z0, zE, zL⟩ := q_ct_ok q1
                      exact Or.inr ⟨z0, E', hG _ zL, hNC E xE E' zE (fun q => q2 q.symm)⟩
                  have cat : ∀ (j hp2 : Nat), q_wr N d ww F hp2 (q_rmv env j) [] h1 = some (v, h') → (∀ (H1 : Heap) (locs1 : List Loc) (cells1 slots1 : Nat) (q : Addr), (∀ ls1 : Array Slot, lv_has ls1 ww.1.2.2.2.1 ((j, Value.ref q) :: qm (qad H0.size sC) (q_rmv env j)) → W p l e (q_rm (d + 1) Rc Rs) s m args below meth c H1 locs1 cells1 slots1 (MQ below (q_Qc D dA sC H0 v h') args s Rc Rs (fun q => H0.size ≤ q)) (F0 m hp2 ls1 [])) → W p l e (q_rm (d + 1) Rc Rs) s m args below meth c H1 locs1 cells1 slots1 (MQ below (q_Qc D dA sC H0 v h') args s Rc Rs (fun q => H0.size ≤ q)) (F0 m hp ls [.ref q])) →
                      W p l e (q_rm (d + 1) Rc Rs) s m args below meth c H locs cells slots (MQ below (q_Qc D dA sC H0 v h') args s Rc Rs (fun q => H0.size ≤ q)) (F0 m pc ls (st.map (qv (qad H0.size sC)))) := by
                    intro j hp2 hrun2 hst
                    have hm2 := q_wr_mono _ _ _ _ _ _ _ hrun2
                    refine q_callsX_W hl hx hb hml hG hownN hA hlv.1 w hlo hd hinv k0 c1 c2 c3 hcr hRf hRl (by show _ ≤ Rc; omega) (by show _ ≤ Rs; omega) (fun H1 locs1 q ce w1 l1 hq hv9 hcl => ?_)
                    refine q_catch (own := RL) (name := E) (E := E) (ce := ce) hown pre x suf (hex.trans t1) hpass t3 x0 (hG _ xL) hcast hq hv9 hcl ?_
                    rw [t2]
                    refine hst H1 locs1 _ _ q (fun ls1 hl1 => ?_)
                    have hl2 : lv_has ls1 ww.1.2.2.2.1 (qm (qad H0.size sC) (q_rmv env j)) := ⟨hl1.1, hl1.2.1, fun z hz => hl1.2.2 z (List.mem_cons_of_mem _ hz)⟩
                    exact ih hp2 (q_rmv env j) [] h1 v h' hrun2 H1 locs1 _ _ ls1 n0 s0 Rc Rs hl2 w1 l1 (by omega) (by omega) hRc hRs
                  split at hrun
                  · rename_i j hdj
                    split at hrun
                    · rename_i hj
                      exact cat j _ hrun (fun H1 locs1 cells1 slots1 q kk => lv_astore_n hx hb hdj rfl hlv hj (by rw [qm_rmv]) kk)
                    · cases hrun
                  · rename_i j hdj
                    split at hrun
                    · rename_i hj
                      exact cat j _ hrun (fun H1 locs1 cells1 slots1 q kk => lv_astore hx hb hdj hlv hj (by rw [qm_rmv]) kk)
                    · cases hrun
                  · cases hrun
                · cases hrun
              · cases hrun
            · cases hrun
          · cases hrun
end QWR
section QWM
variable {l : Launch} {D : va_G} {dA : Nat → ClassId} {sC : qS} {H0 : Heap}
def q_preC (D : va_G) (dA : Nat → ClassId) (sC : qS) (H0 : Heap) (as : List Value) (h : qH) : Array Value → State → Prop := fun a U => q_pre D dA sC H0 as h a U ∧ q_NC U
theorem q_preC_blind (D : va_G) (dA : Nat → ClassId) (sC : qS) (H0 : Heap) (as : List Value) (h : qH) : FrameBlind (q_preC D dA sC H0 as h) := fun a U g mk q => ⟨q_pre_blind D dA sC H0 as h a U g mk q.1, q_NC.warm (s := U) (U := U.calling g mk a) (State.WarmedH.refl U) q.2⟩
def q_wws (w : qM × qHT) : List Cond := Cond.codeWith w.1.2.2.2.2.2.2 w.1.2.2.1 w.1.2.2.2.1 w.1.2.2.2.2.1 w.2 :: GW
theorem q_wmet (hl : l.stackTraces = false) {N d F : Nat} {w : qM × qHT} {as : List Value} {h h' : qH} {v : Option Value} (hw : q_wok w) (hrun : q_wr N d w F 0 (lv_args 0 as) [] h = some (v, h')) (hwd : (lg_sl as).length ≤ w.1.2.2.2.1) :
    Met l w.1.2.2.2.2.2.2 (q_wws w) (q_rm (d + 1) (h'.2.1 - h.2.1) (h'.2.2 - h.2.2)) (q_preC D dA sC H0 as h) (q_Qc D dA sC H0 v h') (h'.2.1 - h.2.1) (h'.2.2 - h.2.2) (fun q => H0.size ≤ q) := by
  obtain ⟨k1, k2, k3, k4, k5, k6, k7, k8⟩ := hw
  refine va_MetW (cc := w.1.2.2.1) (maxL := w.1.2.2.2.1) (ret := w.1.2.2.2.2.1) (hh := w.2) k4 rfl ?_
  intro p e s m args below meth c s₁ B hml hv
  obtain ⟨⟨rfl, hw1, hA⟩, hNC⟩ := hv
  have hts := atoms_spec (ws := q_wws w) B.pre
  have hl0 := lv_entry (as.map (qv (qad H0.size sC))) (n := w.1.2.2.2.1) (by rw [q_sl]; exact hwd)
  have hmono := q_wr_mono _ _ _ _ _ _ _ hrun
  have hex := vx_table (x := w.1.2.2.2.2.2.2) B (hts _ List.mem_cons_self)
  rw [lg_entry_eq]
  generalize (lg_sl (as.map (qv (qad H0.size sC))) ++ List.replicate (w.1.2.2.2.1 - (lg_sl (as.map (qv (qad H0.size sC)))).length) Slot.unset).toArray = ls at hl0 ⊢
  rw [← qm_args] at hl0
  exact q_wr_W hl k1 k2 B.exec B.bytes hml (fun z hz => hts z (List.mem_cons_of_mem _ hz)) (by rw [k3]; exact findClass_of_methodNamed B.named) hA hNC hw1.2.2.1 (by rw [hw1.2.1]; omega) B.returns B.notSynchronized hex F 0 _ [] h v h' hrun s.heap [] 0 0 ls h.2.1 h.2.2 (h'.2.1 - h.2.1) (h'.2.2 - h.2.2) hl0 hw1 (fun z hz => by cases hz) (by omega) (by omega) (by omega) (by omega)
end QWM
