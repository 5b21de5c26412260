theorem q_ret_eq {rt : Option ClassFile.FieldType} {i : Instr} {st : List Value} {v : Option Value} (h : q_ret rt i st = some v) : (i = .return_ ∧ st = [] ∧ rt = none ∧ v = none) ∨ (∃ x ty, i = .ireturn ∧ st = [.int x] ∧ rt = some ty ∧ narrow ty (.int x) = .int x ∧ v = some (.int x)) ∨ (∃ x, i = .lreturn ∧ st = [.long x] ∧ rt = some .long ∧ v = some (.long x)) ∨ (∃ a ty, i = .areturn ∧ st = [.ref a] ∧ rt = some ty ∧ ((∃ n, ty = .object n) ∨ ∃ t, ty = .array t) ∧ v = some (.ref a)) := by
  unfold q_ret at h
  split at h
  · split at h
    · cases h; exact Or.inl ⟨rfl, rfl, rfl, rfl⟩
    · cases h
  · split at h
    · split at h
      · cases h; exact Or.inr (Or.inl ⟨_, _, rfl, rfl, rfl, by assumption, rfl⟩)
      · cases h
    · cases h
  · split at h
    · cases h; exact Or.inr (Or.inr (Or.inl ⟨_, rfl, rfl, rfl, rfl⟩))
    · cases h
  · split at h
    · cases h; exact Or.inr (Or.inr (Or.inr ⟨_, _, rfl, rfl, rfl, Or.inl ⟨_, rfl⟩, rfl⟩))
    · cases h; exact Or.inr (Or.inr (Or.inr ⟨_, _, rfl, rfl, rfl, Or.inr ⟨_, rfl⟩, rfl⟩))
    · cases h
  · cases h
theorem q_oN {k : Nat} (h : k < 12) : oN k = qC k := q_lt12 (P := fun k => oN k = qC k) rfl rfl rfl rfl rfl rfl rfl rfl rfl rfl rfl rfl k h
theorem q_stk (ad : Nat → Nat) (as r : List Value) (b : Nat) : (as.reverse ++ .ref b :: r).map (qv ad) = (as.map (qv ad)).reverse ++ .ref (ad b) :: r.map (qv ad) := by
  rw [List.map_append, List.map_reverse]
  rfl
theorem q_stk0 (ad : Nat → Nat) (as r : List Value) : (as.reverse ++ r).map (qv ad) = (as.map (qv ad)).reverse ++ r.map (qv ad) := by
  rw [List.map_append, List.map_reverse]
theorem q_stkv (ad : Nat → Nat) (v : Option Value) (r : List Value) : (v.toList ++ r).map (qv ad) = (v.map (qv ad)).toList ++ r.map (qv ad) := by
  cases v <;> rfl
set_option maxHeartbeats 8000000 in
theorem q_body {l : Launch} (hl : l.stackTraces = false) {D : va_G} {dA : Nat → ClassId} {sC : qS} {H0 : Heap} : ∀ N, q_Body l D dA sC H0 N := by
  intro N
  induction N with
  | zero => intro d M pc env st h o h' hM hrun; cases hrun
  | succ N ih =>
    intro d M pc env st h o h' hM hrun p e s m args below meth c hx hb hml hG hown hA hs0 hr hlk hin hex H locs cells slots ls n0 s0 Rc Rs hsz hlv w hlo hc hsl hRc hRs
    have hmono := q_run_mono _ _ _ _ _ _ _ _ _ hrun
    have hls : c.maxLocals = ls.size := hml.trans hlv.1.symm
    have go : ∀ (pc1 : Nat) (env1 : qL) (st1 : List Value) (h1 : qH), q_run N d M pc1 env1 st1 h1 = some (o, h') → ∀ (H1 : Heap) (locs1 : List Loc) (cells1 slots1 : Nat) (ls1 : Array Slot), lv_has ls1 M.2.2.2.1 (qm (qad H0.size sC) env1) → qW D dA sC H0 h1 H1 → (∀ z ∈ locs1, H0.size ≤ z.base) → cells1 + n0 = h1.2.1 → slots1 + s0 = h1.2.2 →
        W p l e (q_rm d Rc Rs) s m args below meth c H1 locs1 cells1 slots1 (q_End D dA sC H0 o h' below args s Rc Rs) (F0 m pc1 ls1 (st1.map (qv (qad H0.size sC)))) :=
      fun pc1 env1 st1 h1 hrun1 H1 locs1 cells1 slots1 ls1 hlv1 w1 hlo1 hc1 hsl1 => ih d M pc1 env1 st1 h1 o h' hM hrun1 p e s m args below meth c hx hb hml hG hown hA hs0 hr hlk hin hex H1 locs1 cells1 slots1 ls1 n0 s0 Rc Rs hsz hlv1 w1 hlo1 hc1 hsl1 hRc hRs
    have hf8 : 8 ≤ (q_rm d Rc Rs).frames := by show 8 ≤ 8 * (d + 1); omega
    have hl100 : 100 ≤ (q_rm d Rc Rs).locals := by show 100 ≤ 100 * (d + 1); omega
    unfold q_run at hrun
    split at hrun
    · cases hrun
    · rename_i i len hd
      split at hrun
      · rename_i hlok
        have hle := q_lok_eq hlok
        split at hrun
        · -- the stack alone
          rename_i st' hop
          have hlen : len = q_len i := by
            rcases hle with q | ⟨a, b, d, f, q⟩ | ⟨a, b, q⟩
            · exact q
            · rw [q] at hop; cases hop
            · rw [q] at hop; cases hop
          exact q_op_W (qad H0.size sC) hx hb hd hlen hop (go _ _ _ _ hrun H locs cells slots ls hlv w hlo hc hsl)
        · split at hrun
          · -- locals
            rename_i env' st' hloc
            have hlen : len = q_len i := by
              rcases hle with q | ⟨a, b, d, f, q⟩ | ⟨a, b, q⟩
              · exact q
              · rw [q] at hloc; cases hloc
              · rw [q] at hloc; cases hloc
            exact q_loc_W (qad H0.size sC) hx hb hd hlen hloc hlv (fun ls' hl' => go _ _ _ _ hrun H locs cells slots ls' hl' w hlo hc hsl)
          · split at hrun
            · -- branches
              rename_i pc' st' hj
              exact q_jmp_W (qad H0.size sC) hx hb hd hle hj (go _ _ _ _ hrun H locs cells slots ls hlv w hlo hc hsl)
            · split at hrun
              · -- the heap
                rename_i st' h2 hm
                have hlen : len = q_len i := by
                  rcases hle with q | ⟨a, b, d, f, q⟩ | ⟨a, b, q⟩
                  · exact q
                  · rw [q] at hm; cases hm
                  · rw [q] at hm; cases hm
                have hm2 := q_run_mono _ _ _ _ _ _ _ _ _ hrun
                exact q_mem_W hx hb hG hown hA hs0 (by omega) (fun q => hin (beq_iff_eq.mp q)) hls w hlo hc hsl (by show _ ≤ Rc + n0; omega) (by show _ ≤ Rs + s0; omega) hf8 hl100 hd hlen hm (fun H1 locs1 cells1 slots1 w1 l1 c1 s1 => go _ _ _ _ hrun H1 locs1 cells1 slots1 ls hlv w1 l1 c1 s1)
              · split at hrun
                · -- returns
                  rename_i v hv
                  have hlen : len = q_len i := by
                    rcases hle with q | ⟨a, b, d, f, q⟩ | ⟨a, b, q⟩
                    · exact q
                    · rw [q] at hv; cases hv
                    · rw [q] at hv; cases hv
                  cases hrun
                  have e1 : cells = Rc := by omega
                  have e2 : slots = Rs := by omega
                  subst e1 e2 hlen
                  rcases q_ret_eq hv with ⟨rfl, rfl, hrt, rfl⟩ | ⟨x, ty, rfl, rfl, hrt, hn, rfl⟩ | ⟨x, rfl, rfl, hrt, rfl⟩ | ⟨x, ty, rfl, rfl, hrt, hty, rfl⟩
                  · exact W.vret hx hb (hr.trans hrt) (fun t ht _ => ⟨rfl, by rw [ht]; exact w⟩) hlo hd
                  · exact W.zret hx hb (hr.trans hrt) hn (fun t ht _ => ⟨rfl, by rw [ht]; exact w⟩) hlo hd
                  · exact W.lret hx hb (hr.trans hrt) (fun t ht _ => ⟨rfl, by rw [ht]; exact w⟩) hlo hd
                  · exact W.aret hx hb (hr.trans hrt) hty (Or.inr ⟨_, rfl⟩) (fun t ht _ => ⟨rfl, by rw [ht]; exact w⟩) hlo hd
                · split at hrun
                  · -- throws
                    rename_i E ht
                    have hlen : len = q_len i := by
                      rcases hle with q | ⟨a, b, d, f, q⟩ | ⟨a, b, q⟩
                      · exact q
                      · rw [q] at ht; cases ht
                      · rw [q] at ht; cases ht
                    cases hrun
                    have e1 : cells + 1 = Rc := by have : h.2.1 + 1 = Rc + n0 := hRc; omega
                    have e2 : slots + 6 = Rs := by have : h.2.2 + 6 = Rs + s0 := hRs; omega
                    subst e1 e2
                    exact q_throw_W hl hx hb hG hown hA hs0 (by rw [w.2.1]; omega) hlk hex hls w hlo hf8 hl100 (Nat.le_refl _) (Nat.le_refl _) (Nat.le_refl _) (Nat.le_refl _) hd hlen ht
                  · split at hrun
                    · -- calls
                      rename_i k as r hinv
                      cases d with
                      | zero => cases hrun
                      | succ d' =>
                        dsimp only at hrun
                        split at hrun
                        · rename_i hcond
                          obtain ⟨c1, c2, c3⟩ := hcond
                          have hcat := q_cats (ad := qad H0.size sC) c3
                          have hR : ∀ mc ms : Nat, (q_rm d' mc ms).frames + 1 ≤ (q_rm (d' + 1) Rc Rs).frames ∧ 8 + ((q_ms k).2.2.2.1 + 11) + (q_rm d' mc ms).locals ≤ (q_rm (d' + 1) Rc Rs).locals := fun mc ms => ⟨by show 8 * (d' + 1) + 1 ≤ 8 * (d' + 1 + 1); omega, by show 8 + ((q_ms k).2.2.2.1 + 11) + 100 * (d' + 1) ≤ 100 * (d' + 1 + 1); omega⟩
                          have hp : ∀ (U : State), U.heap = H → s.WarmedH U.vm → q_pre D dA sC H0 as h (as.map (qv (qad H0.size sC))).toArray U := fun U hU hW => ⟨rfl, by rw [hU]; exact w, hA.warm hW⟩
                          split at hrun
                          · -- .. that return
                            rename_i v h1 hcr
                            have hm1 := q_run_mono _ _ _ _ _ _ _ _ _ hcr
                            have hm2 := q_run_mono _ _ _ _ _ _ _ _ _ hrun
                            have hfit : cells + (h1.2.1 - h.2.1) ≤ (q_rm (d' + 1) Rc Rs).cells ∧ slots + (h1.2.2 - h.2.2) ≤ (q_rm (d' + 1) Rc Rs).slots := ⟨by show _ ≤ Rc; omega, by show _ ≤ Rs; omega⟩
                            have fin : ∀ (H1 : Heap) (locs1 : List Loc), qW D dA sC H0 h1 H1 → (∀ z ∈ locs1, H0.size ≤ z.base) → W p l e (q_rm (d' + 1) Rc Rs) s m args below meth c H1 locs1 (cells + (h1.2.1 - h.2.1)) (slots + (h1.2.2 - h.2.2)) (q_End D dA sC H0 o h' below args s Rc Rs) (F0 m (pc + 3) ls ((v.map (qv (qad H0.size sC))).toList ++ r.map (qv (qad H0.size sC)))) := fun H1 locs1 w1 l1 => by
                              rw [← q_stkv]
                              exact go _ _ _ _ hrun H1 locs1 _ _ ls hlv w1 l1 (by omega) (by omega)
                            rcases q_inv_eq hinv with ⟨idx, b, as', vs, rfl, hk, k0, rfl, hna, rfl, hbb, hlt⟩ | ⟨idx, b, as', rfl, hk, k2, rfl, hna, rfl⟩ | ⟨idx, rfl, hk, k13, hna, rfl⟩
                            · have hlen : len = 3 := by
                                rcases hle with q | ⟨a, b, d, f, q⟩ | ⟨a, b, q⟩
                                · exact q
                                · cases q
                                · cases q
                              subst hlen
                              obtain ⟨hMk, hn3, hln⟩ := q_mth_ok hk
                              have hmet := q_metR ih hMk hcr c1
                              have hcl : (q_ms k).2.2.2.2.2.2.cls = qC (q_ms k).2.1 := by rw [← hMk.1, q_oN hlt]
                              obtain ⟨rr, g1, cell, g2, g3, g4, -⟩ := w.ob hbb
                              have hKb := (hA.1.1 (q_ms k).2.1 _ (q_cl _ hlt)).2.1
                              obtain ⟨v0, v1⟩ := hMk.2.2.2.2.2.1 k0
                              rw [q_stk]
                              refine q_callR (a := (Value.ref (qad H0.size sC b) :: as'.map (qv (qad H0.size sC))).toArray) (va_runV (C := (q_ms k).2.2.2.2.2.2.cls) (n := (q_ms k).2.2.2.2.2.1) ⟨hx, hb, hml, hown, hG⟩ hmet (cwV (Ts := GW) (q_ms k).2.2.2.2.2.1 hG (q_good (fun z hz => ?_)) rfl rfl rfl ⟨rfl, hMk.2.2.1⟩ (hR _ _)) ⟨q_pre_blind D dA sC H0 _ h, ⟨cell, g2, by rw [g4]; rfl, by rw [hcl, g3]; exact hKb⟩, hp⟩ rfl (by rw [List.length_map]; exact hna) hlv.1 rfl (lv_room hcat) hd hfit) hlo fin
                              unfold wsV at hz
                              rcases List.mem_append.mp hz with q | q
                              · simp only [List.mem_cons, List.not_mem_nil, or_false] at q
                                rcases q with rfl | rfl | rfl | rfl
                                · exact hln (by rw [k0]; decide)
                                · exact v0
                                · exact v1
                                · exact hMk.2.2.2.2.1
                              · rcases List.mem_cons.mp q with rfl | q
                                · exact hMk.2.2.2.1
                                · exact q
                            · have hlen : len = 3 := by
                                rcases hle with q | ⟨a, b, d, f, q⟩ | ⟨a, b, q⟩
                                · exact q
                                · cases q
                                · cases q
                              subst hlen
                              obtain ⟨hMk, hn3, hln⟩ := q_mth_ok hk
                              have hmet := q_metR ih hMk hcr c1
                              obtain ⟨v0, v1, v2⟩ := hMk.2.2.2.2.2.2.2 k2
                              have hgd := q_ws_good hMk
                              have hcn : q_ws (q_ms k) = Cond.code (q_ms k).2.2.2.2.2.2 (q_ms k).2.2.1 (q_ms k).2.2.2.1 none :: GW := by unfold q_ws; rw [v2]
                              rw [q_stk]
                              exact q_callR (a := (Value.ref (qad H0.size sC b) :: as'.map (qv (qad H0.size sC))).toArray) (va_runI (n := (q_ms k).2.2.2.2.2.1) ⟨hx, hb, hml, hown, hG⟩ hmet (cwI (Ts := GW) (q_ms k).2.2.2.2.2.1 hG hgd hcn rfl rfl (hG _ hMk.2.2.2.2.1) (hG _ (hln (by rw [k2]; decide))) (hG _ v0) v1 hMk.2.2.1 (hR _ _)) ⟨q_pre_blind D dA sC H0 _ h, hp⟩ rfl (by rw [List.length_map]; exact hna) hlv.1 rfl (lv_room hcat) hd hfit) hlo fin
                            · have hlen : len = 3 := by
                                rcases hle with q | ⟨a, b, d, f, q⟩ | ⟨a, b, q⟩
                                · exact q
                                · cases q
                                · cases q
                              subst hlen
                              obtain ⟨hMk, hn3, hln⟩ := q_mth_ok hk
                              have hmet := q_metR ih hMk hcr c1
                              have hst9 := hMk.2.2.2.2.2.2.1 k13
                              rw [q_stk0]
                              by_cases k3 : (q_ms k).1 = 3
                              · exact q_callR (a := (as.map (qv (qad H0.size sC))).toArray) (va_runSN (n := (q_ms k).2.2.2.2.2.1) ⟨hx, hb, hml, hown, hG⟩ hmet ⟨va_cnB (q_ms k).2.2.2.2.2.1 hG (q_ws_good hMk) rfl rfl rfl (hA.2.1 _ (List.mem_append_left _ (hn3 k3))) (hG _ hMk.2.2.2.2.1) hMk.2.2.1 (hR _ _), hG _ hst9, trivial⟩ ⟨q_pre_blind D dA sC H0 _ h, hp⟩ rfl (by rw [List.length_map]; exact hna) hlv.1 rfl (lv_room hcat) hd hfit) hlo fin
                              · refine q_callR (a := (as.map (qv (qad H0.size sC))).toArray) (va_runS (n := (q_ms k).2.2.2.2.2.1) ⟨hx, hb, hml, hown, hG⟩ hmet (va_cwS (Ts := GW) (q_ms k).2.2.2.2.2.1 hG (q_good (fun z hz => ?_)) rfl rfl rfl hMk.2.2.1 (hR _ _)) ⟨q_pre_blind D dA sC H0 _ h, hp⟩ rfl (by rw [List.length_map]; exact hna) hlv.1 rfl (lv_room hcat) hd hfit) hlo fin
                                unfold va_wsS at hz
                                rcases List.mem_append.mp hz with q | q
                                · simp only [List.mem_cons, List.not_mem_nil, or_false] at q
                                  rcases q with rfl | rfl | rfl
                                  · exact hln k3
                                  · exact hst9
                                  · exact hMk.2.2.2.2.1
                                · rcases List.mem_cons.mp q with rfl | q
                                  · exact hMk.2.2.2.1
                                  · exact q
                          · -- .. that throw
                            rename_i E h1 hcr
                            split at hrun
                            · rename_i hlt2
                              cases hrun
                              have hm1 := q_run_mono _ _ _ _ _ _ _ _ _ hcr
                              have hfit : cells + (h'.2.1 - h.2.1) ≤ (q_rm (d' + 1) Rc Rs).cells ∧ slots + (h'.2.2 - h.2.2) ≤ (q_rm (d' + 1) Rc Rs).slots := ⟨by show _ ≤ Rc; omega, by show _ ≤ Rs; omega⟩
                              rcases q_inv_eq hinv with ⟨idx, b, as', vs, rfl, hk, k0, rfl, hna, rfl, hbb, hlt⟩ | ⟨idx, b, as', rfl, hk, k2, rfl, hna, rfl⟩ | ⟨idx, rfl, hk, k13, hna, rfl⟩
                              · have hlen : len = 3 := by
                                  rcases hle with q | ⟨a, b, d, f, q⟩ | ⟨a, b, q⟩
                                  · exact q
                                  · cases q
                                  · cases q
                                subst hlen
                                obtain ⟨hMk, hn3, hln⟩ := q_mth_ok hk
                                have hmet := q_metX ih hMk hcr c1
                                have hcl : (q_ms k).2.2.2.2.2.2.cls = qC (q_ms k).2.1 := by rw [← hMk.1, q_oN hlt]
                                obtain ⟨rr, g1, cell, g2, g3, g4, -⟩ := w.ob hbb
                                have hKb := (hA.1.1 (q_ms k).2.1 _ (q_cl _ hlt)).2.1
                                obtain ⟨v0, v1⟩ := hMk.2.2.2.2.2.1 k0
                                rw [q_stk]
                                refine q_callX (a := (Value.ref (qad H0.size sC b) :: as'.map (qv (qad H0.size sC))).toArray) (vx_runV (C := (q_ms k).2.2.2.2.2.2.cls) (n := (q_ms k).2.2.2.2.2.1) ⟨hx, hb, hml, hown, hG⟩ hmet (cwV (Ts := GW) (q_ms k).2.2.2.2.2.1 hG (q_good (fun z hz => ?_)) rfl rfl rfl ⟨rfl, hMk.2.2.1⟩ (hR _ _)) ⟨q_pre_blind D dA sC H0 _ h, ⟨cell, g2, by rw [g4]; rfl, by rw [hcl, g3]; exact hKb⟩, hp⟩ rfl (by rw [List.length_map]; exact hna) hlv.1 rfl (lv_room hcat) hd hfit) hlo hex hlk (by omega) (by omega)
                                unfold wsV at hz
                                rcases List.mem_append.mp hz with q | q
                                · simp only [List.mem_cons, List.not_mem_nil, or_false] at q
                                  rcases q with rfl | rfl | rfl | rfl
                                  · exact hln (by rw [k0]; decide)
                                  · exact v0
                                  · exact v1
                                  · exact hMk.2.2.2.2.1
                                · rcases List.mem_cons.mp q with rfl | q
                                  · exact hMk.2.2.2.1
                                  · exact q
                              · omega
                              · have hlen : len = 3 := by
                                  rcases hle with q | ⟨a, b, d, f, q⟩ | ⟨a, b, q⟩
                                  · exact q
                                  · cases q
                                  · cases q
                                subst hlen
                                obtain ⟨hMk, hn3, hln⟩ := q_mth_ok hk
                                have hmet := q_metX ih hMk hcr c1
                                have hst9 := hMk.2.2.2.2.2.2.1 k13
                                rw [q_stk0]
                                refine q_callX (a := (as.map (qv (qad H0.size sC))).toArray) (vx_runS (n := (q_ms k).2.2.2.2.2.1) ⟨hx, hb, hml, hown, hG⟩ hmet (va_cwS (Ts := GW) (q_ms k).2.2.2.2.2.1 hG (q_good (fun z hz => ?_)) rfl rfl rfl hMk.2.2.1 (hR _ _)) ⟨q_pre_blind D dA sC H0 _ h, hp⟩ rfl (by rw [List.length_map]; exact hna) hlv.1 rfl (lv_room hcat) hd hfit) hlo hex hlk (by omega) (by omega)
                                unfold va_wsS at hz
                                rcases List.mem_append.mp hz with q | q
                                · simp only [List.mem_cons, List.not_mem_nil, or_false] at q
                                  rcases q with rfl | rfl | rfl
                                  · exact hln (by omega)
                                  · exact hst9
                                  · exact hMk.2.2.2.2.1
                                · rcases List.mem_cons.mp q with rfl | q
                                  · exact hMk.2.2.2.1
                                  · exact q
                            · cases hrun
                          · cases hrun
                        · cases hrun
                    · cases hrun
      · cases hrun
