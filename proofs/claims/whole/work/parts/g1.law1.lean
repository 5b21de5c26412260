/-! THE LAW: its machine and that of its wrappers as statements -/
theorem q_wr_le {d : Nat} {w : qM × qHT} : ∀ (F N pc : Nat) (env : qL) (st : List Value) (h : qH) (r : Option Value × qH), q_wr N d w F pc env st h = some r → ∀ (N' F' : Nat), N ≤ N' → F ≤ F' → q_wr N' d w F' pc env st h = some r := by
  intro F
  induction F with
  | zero => intro N pc env st h r hr; cases hr
  | succ F ih =>
    intro N pc env st h r hr N' F' hN hF
    obtain ⟨F', rfl⟩ : ∃ g, F' = g + 1 := ⟨F' - 1, by omega⟩
    unfold q_wr at hr ⊢
    cases hs : q_step w.1 pc env st h with
    | some x =>
      obtain ⟨pc', env', st', h'⟩ := x
      rw [hs] at hr
      exact ih N _ _ _ _ _ hr N' F' hN (by omega)
    | none =>
      rw [hs] at hr
      dsimp only at hr ⊢
      cases hdc : decode w.1.2.2.1 pc with
      | error e => rw [hdc] at hr; cases hr
      | ok x =>
        obtain ⟨i, len⟩ := x
        rw [hdc] at hr
        dsimp only at hr ⊢
        cases hrt : q_ret w.1.2.2.2.2.1 i st with
        | some v => rw [hrt] at hr; exact hr
        | none =>
          rw [hrt] at hr
          dsimp only at hr ⊢
          cases hi : q_inv w.1.2.1 i st h with
          | none => rw [hi] at hr; cases hr
          | some x =>
            obtain ⟨k, as, rr⟩ := x
            rw [hi] at hr
            dsimp only at hr ⊢
            split at hr
            · rename_i hc
              rw [if_pos hc]
              cases hq : q_run N d (q_ms k) 0 (lv_args 0 as) [] h with
              | none => rw [hq] at hr; cases hr
              | some x =>
                have hq' := q_run_le _ _ _ _ _ _ _ _ hq N' d hN (Nat.le_refl _)
                rw [hq] at hr
                rw [hq']
                obtain ⟨o, h'⟩ := x
                cases o with
                | inl v => exact ih N _ _ _ _ _ hr N' F' hN (by omega)
                | inr E =>
                  dsimp only at hr ⊢
                  cases hh : q_han w.2 pc E with
                  | none => rw [hh] at hr; cases hr
                  | some hp =>
                    rw [hh] at hr
                    dsimp only at hr ⊢
                    split at hr
                    · rename_i hd2
                      try rw [hd2]
                      try dsimp only
                      split at hr
                      · rename_i hc2
                        rw [if_pos hc2]
                        exact ih N _ _ _ _ _ hr N' F' hN (by omega)
                      · cases hr
                    · rename_i hd2
                      try rw [hd2]
                      try dsimp only
                      split at hr
                      · rename_i hc2
                        rw [if_pos hc2]
                        exact ih N _ _ _ _ _ hr N' F' hN (by omega)
                      · cases hr
                    · cases hr
            · cases hr
theorem q_lw_le {M : qM} {d : Nat} : ∀ (F N pc : Nat) (env : qL) (st : List Value) (h : qH) (r : qH), q_lw M N d F pc env st h = some r → ∀ (N' F' : Nat), N ≤ N' → F ≤ F' → q_lw M N' d F' pc env st h = some r := by
  intro F
  induction F with
  | zero => intro N pc env st h r hr; cases hr
  | succ F ih =>
    intro N pc env st h r hr N' F' hN hF
    obtain ⟨F', rfl⟩ : ∃ g, F' = g + 1 := ⟨F' - 1, by omega⟩
    unfold q_lw at hr ⊢
    cases hs : q_step M pc env st h with
    | some x =>
      obtain ⟨pc', env', st', h'⟩ := x
      rw [hs] at hr
      exact ih N _ _ _ _ _ hr N' F' hN (by omega)
    | none =>
      rw [hs] at hr
      dsimp only at hr ⊢
      cases hdc : decode M.2.2.1 pc with
      | error e => rw [hdc] at hr; cases hr
      | ok x =>
        obtain ⟨i, len⟩ := x
        rw [hdc] at hr
        dsimp only at hr ⊢
        split at hr
        · rename_i hc
          rw [if_pos hc]
          exact hr
        · rename_i hc
          rw [if_neg hc]
          cases hi : q_inv M.2.1 i st h with
          | some x =>
            obtain ⟨k, as, rr⟩ := x
            rw [hi] at hr
            dsimp only at hr ⊢
            split at hr
            · rename_i hc
              rw [if_pos hc]
              cases hq : q_run N d (q_ms k) 0 (lv_args 0 as) [] h with
              | none => rw [hq] at hr; cases hr
              | some x =>
                have hq' := q_run_le _ _ _ _ _ _ _ _ hq N' d hN (Nat.le_refl _)
                rw [hq] at hr
                rw [hq']
                obtain ⟨o, h'⟩ := x
                cases o with
                | inl v => exact ih N _ _ _ _ _ hr N' F' hN (by omega)
                | inr E => cases hr
            · cases hr
          | none =>
            rw [hi] at hr
            dsimp only at hr ⊢
            split at hr
            · rename_i idx
              try dsimp only at hr
              try dsimp only
              cases hw : q_wl idx with
              | none => rw [hw] at hr; cases hr
              | some k =>
                rw [hw] at hr
                dsimp only at hr ⊢
                split at hr
                · rename_i hc
                  rw [if_pos hc]
                  split at hr
                  · rename_i v h' hq
                    rw [q_wr_le _ _ _ _ _ _ _ hq N' N' hN hN]
                    exact ih N _ _ _ _ _ hr N' F' hN (by omega)
                  · cases hr
                · cases hr
            · cases hr
/-- the law at pc comes to its end, within its room -/
def qV (d pc : Nat) (L : List (Option Value)) (st : List Value) (h : qH) : Prop := ∃ (N F : Nat) (h' : qH), (∀ env, EL env L → q_lw qML N d F pc env st h = some h') ∧ h'.2.1 ≤ 601024 ∧ h'.2.2 ≤ 7293034
/-- a wrapper at pc comes to an end for which Q holds -/
def qU (d : Nat) (w : qM × qHT) (pc : Nat) (L : List (Option Value)) (st : List Value) (h : qH) (Q : Option Value → qH → Prop) : Prop := ∃ (N F : Nat) (v : Option Value) (h' : qH), (∀ env, EL env L → q_wr N d w F pc env st h = some (v, h')) ∧ Q v h'
/-- one step -/
def sR (M : qM) (pc : Nat) (L : List (Option Value)) (st : List Value) (h : qH) (pc' : Nat) (L' : List (Option Value)) (st' : List Value) (h' : qH) : Prop := ∀ env, EL env L → ∃ env', q_step M pc env st h = some (pc', env', st', h') ∧ EL env' L'
def q_ckc (cc : ByteArray) (T : List (Nat × Instr × Nat)) : Bool := T.all (fun e => decide (decode cc e.1 = .ok (e.2.1, e.2.2)))
theorem ckc_at {cc : ByteArray} {T : List (Nat × Instr × Nat)} (h : q_ckc cc T = true) (n : Nat) {pc len : Nat} {i : Instr} (e : T[n]? = some (pc, i, len)) : decode cc pc = .ok (i, len) := by
  unfold q_ckc at h
  have h1 := List.all_eq_true.mp h _ (List.mem_of_getElem? e)
  simp only [decide_eq_true_eq] at h1
  exact h1
section SR
variable {M : qM} {d pc : Nat} {L : List (Option Value)} {st : List Value} {h : qH} {i : Instr} {len : Nat} {w : qM × qHT} {Q : Option Value → qH → Prop}
theorem v_go {pc' : Nat} {L' : List (Option Value)} {st' : List Value} {h' : qH} (hs : sR qML pc L st h pc' L' st' h') (x : qV d pc' L' st' h') : qV d pc L st h := by
  obtain ⟨N, F, h2, hr, hb⟩ := x
  refine ⟨N, F + 1, h2, fun env he => ?_, hb⟩
  obtain ⟨env', e1, e2⟩ := hs env he
  unfold q_lw
  rw [e1]
  exact hr env' e2
theorem u_go {pc' : Nat} {L' : List (Option Value)} {st' : List Value} {h' : qH} (hs : sR w.1 pc L st h pc' L' st' h') (x : qU d w pc' L' st' h' Q) : qU d w pc L st h Q := by
  obtain ⟨N, F, v, h2, hr, hb⟩ := x
  refine ⟨N, F + 1, v, h2, fun env he => ?_, hb⟩
  obtain ⟨env', e1, e2⟩ := hs env he
  unfold q_wr
  rw [e1]
  exact hr env' e2
theorem r_op {st' : List Value} (hd : decode M.2.2.1 pc = .ok (i, len)) (hl : q_lok i len = true) (ho : q_op i st = some st') : sR M pc L st h (pc + len) L st' h := fun env he => ⟨env, by
  unfold q_step
  rw [hd]
  dsimp only
  rw [if_pos hl, ho], he⟩
theorem r_loc {L' : List (Option Value)} {st' : List Value} (hd : decode M.2.2.1 pc = .ok (i, len)) (hl : q_lok i len = true) (ho : q_op i st = none) (hs : ∀ env, EL env L → ∃ env', q_loc M.2.2.2.1 i len env st = some (env', st') ∧ EL env' L') : sR M pc L st h (pc + len) L' st' h := fun env he => by
  obtain ⟨env', h1, h2⟩ := hs env he
  refine ⟨env', ?_, h2⟩
  unfold q_step
  rw [hd]
  dsimp only
  rw [if_pos hl, ho]
  dsimp only
  rw [h1]
theorem r_ldk {ok : Value → Bool} {n : Nat} {v : Value} (hd : decode M.2.2.1 pc = .ok (i, len)) (hl : q_lok i len = true) (ho : q_op i st = none) (hi : ∀ env, q_loc M.2.2.2.1 i len env st = q_ldk ok env n st) (hv : L[n]? = some (some v)) (hk : ok v = true) : sR M pc L st h (pc + len) L (v :: st) h :=
  r_loc hd hl ho (fun env he => ⟨env, by rw [hi]; unfold q_ldk; rw [he n v hv]; dsimp only; rw [if_pos hk], he⟩)
theorem r_st1 {L' : List (Option Value)} {ok : Value → Bool} {n nL : Nat} {v : Value} (hd : decode M.2.2.1 pc = .ok (i, len)) (hl : q_lok i len = true) (ho : ∀ s, q_op i s = none) (hi : ∀ env s, q_loc M.2.2.2.1 i len env s = q_st1 ok M.2.2.2.1 env n s) (hk : ok v = true) (hnL : M.2.2.2.1 = nL) (hn : n < nL) (hc : catOK L[n - 1]?) (hL : L.set n (some v) = L') : sR M pc L (v :: st) h (pc + len) L' st h :=
  r_loc hd hl (ho _) (fun env he => ⟨q_set env n v, by rw [hi]; unfold q_st1; dsimp only; rw [if_pos ⟨hk, by rw [hnL]; exact hn⟩], by rw [← hL]; exact EL_set he (cat_ok hc)⟩)
theorem r_st2 {L' : List (Option Value)} {n nL : Nat} {v : Value} (hd : decode M.2.2.1 pc = .ok (i, len)) (hl : q_lok i len = true) (ho : ∀ s, q_op i s = none) (hi : ∀ env s, q_loc M.2.2.2.1 i len env s = q_st2 M.2.2.2.1 env n s) (hk : q_isL v = true) (hnL : M.2.2.2.1 = nL) (hn : n + 1 < nL) (hc : catOK L[n - 1]?) (hL : (L.set n (some v)).set (n + 1) none = L') : sR M pc L (v :: st) h (pc + len) L' st h :=
  r_loc hd hl (ho _) (fun env he => ⟨q_set2 env n v, by rw [hi]; unfold q_st2; dsimp only; rw [if_pos ⟨hk, by rw [hnL]; exact hn⟩], by rw [← hL]; exact EL_set2 he (cat_ok hc)⟩)
theorem r_iinc {L' : List (Option Value)} {n nL : Nat} {c z : Int} (hd : decode M.2.2.1 pc = .ok (.iinc n c, 3)) (hv : L[n]? = some (some (iv z))) (hnL : M.2.2.2.1 = nL) (hn : n < nL) (hc : catOK L[n - 1]?) (hL : L.set n (some (iv (z + c))) = L') : sR M pc L st h (pc + 3) L' st h := by
  refine r_loc hd rfl rfl (fun env he => ⟨q_set env n (iv (z + c)), ?_, by rw [← hL]; exact EL_set he (cat_ok hc)⟩)
  show (match q_get env n with | some (.int x) => if n < M.2.2.2.1 ∧ 3 = 3 then some (q_set env n (.int (x + Int32.ofInt c)), st) else none | _ => none) = _
  rw [he n _ hv]
  show (if n < M.2.2.2.1 ∧ 3 = 3 then some (q_set env n (.int (Int32.ofInt z + Int32.ofInt c)), st) else none) = _
  rw [if_pos ⟨by rw [hnL]; exact hn, rfl⟩]
  unfold iv
  rw [Int32.ofInt_add]
theorem r_jmp {pc' : Nat} {st' : List Value} (hd : decode M.2.2.1 pc = .ok (i, len)) (hl : q_lok i len = true) (ho : q_op i st = none) (ho2 : ∀ env, q_loc M.2.2.2.1 i len env st = none) (hj : q_jmp i pc st = some (pc', st')) : sR M pc L st h pc' L st' h := fun env he => ⟨env, by
  unfold q_step
  rw [hd]
  dsimp only
  rw [if_pos hl, ho]
  dsimp only
  rw [ho2]
  dsimp only
  rw [hj], he⟩
theorem r_goto {off : Int} {t : Nat} (hd : decode M.2.2.1 pc = .ok (.goto off, 3)) (ht : q_tgt pc off = some t) : sR M pc L st h t L st h :=
  r_jmp hd rfl rfl (fun _ => rfl) (by show (match q_tgt pc off with | some t => some (t, st) | none => none) = _; rw [ht])
theorem r_mem {st' : List Value} {h' : qH} (hd : decode M.2.2.1 pc = .ok (i, len)) (hl : q_lok i len = true) (ho : q_op i st = none) (ho2 : ∀ env, q_loc M.2.2.2.1 i len env st = none) (hj : q_jmp i pc st = none) (hm : q_mem M.2.1 (M.1 == 2) i st h = some (st', h')) : sR M pc L st h (pc + len) L st' h' := fun env he => ⟨env, by
  unfold q_step
  rw [hd]
  dsimp only
  rw [if_pos hl, ho]
  dsimp only
  rw [ho2]
  dsimp only
  rw [hj]
  dsimp only
  rw [hm], he⟩
theorem s_none (hd : decode M.2.2.1 pc = .ok (i, len)) (hl : q_lok i len = true) (ho : q_op i st = none) (ho2 : ∀ env, q_loc M.2.2.2.1 i len env st = none) (hj : q_jmp i pc st = none) (hm : q_mem M.2.1 (M.1 == 2) i st h = none) (env : qL) : q_step M pc env st h = none := by
  unfold q_step
  rw [hd]
  dsimp only
  rw [if_pos hl, ho]
  dsimp only
  rw [ho2]
  dsimp only
  rw [hj]
  dsimp only
  rw [hm]
theorem v_icmp {c : ClassFile.Cond} {off : Int} {t : Nat} {x y : Int} (hd : decode qML.2.2.1 pc = .ok (.if_icmp c off, 3)) (ht : q_tgt pc off = some t) (hx : R32 x) (hy : R32 y) (w1 : cP c x y → qV d t L st h) (w2 : cN c x y → qV d (pc + 3) L st h) : qV d pc L (iv y :: iv x :: st) h := by
  have hj : q_jmp (.if_icmp c off) pc (iv y :: iv x :: st) = some (if q_cmp c (Int32.ofInt x) (Int32.ofInt y) = true then t else pc + 3, st) := by
    show q_br (q_cmp c (Int32.ofInt x) (Int32.ofInt y)) pc off st = _
    unfold q_br
    rw [ht]
  by_cases q : q_cmp c (Int32.ofInt x) (Int32.ofInt y) = true
  · rw [if_pos q] at hj
    exact v_go (r_jmp hd rfl rfl (fun _ => rfl) hj) (w1 (cmp_P hx hy q))
  · rw [if_neg q] at hj
    exact v_go (r_jmp hd rfl rfl (fun _ => rfl) hj) (w2 (cmp_N hx hy q))
theorem v_ifz {c : ClassFile.Cond} {off : Int} {t : Nat} {x : Int} (hd : decode qML.2.2.1 pc = .ok (.ifCond c off, 3)) (ht : q_tgt pc off = some t) (hx : R32 x) (w1 : cP c x 0 → qV d t L st h) (w2 : cN c x 0 → qV d (pc + 3) L st h) : qV d pc L (iv x :: st) h := by
  have hy : R32 0 := ⟨by omega, by omega⟩
  have hj : q_jmp (.ifCond c off) pc (iv x :: st) = some (if q_cmp c (Int32.ofInt x) (Int32.ofInt 0) = true then t else pc + 3, st) := by
    show q_br (q_cmp c (Int32.ofInt x) 0) pc off st = _
    unfold q_br
    rw [ht]
    rfl
  by_cases q : q_cmp c (Int32.ofInt x) (Int32.ofInt 0) = true
  · rw [if_pos q] at hj
    exact v_go (r_jmp hd rfl rfl (fun _ => rfl) hj) (w1 (cmp_P hx hy q))
  · rw [if_neg q] at hj
    exact v_go (r_jmp hd rfl rfl (fun _ => rfl) hj) (w2 (cmp_N hx hy q))
/-- the law answers true -/
theorem v_end (hd : decode qML.2.2.1 pc = .ok (.ireturn, 1)) (hb : h.2.1 ≤ 601024 ∧ h.2.2 ≤ 7293034) : qV d pc L [iv 1] h := by
  refine ⟨0, 1, h, fun env _ => ?_, hb⟩
  unfold q_lw
  rw [s_none hd rfl rfl (fun _ => rfl) rfl rfl env]
  dsimp only
  rw [hd]
  dsimp only
  rw [if_pos ⟨rfl, rfl⟩, if_pos (show [iv 1] = [Value.int 1] from rfl)]
theorem v_call {k : Nat} {as r : List Value} {v : Option Value} {h' : qH} (hd : decode qML.2.2.1 pc = .ok (i, 3)) (hl : q_lok i 3 = true) (ho : q_op i st = none) (ho2 : ∀ env, q_loc qML.2.2.2.1 i 3 env st = none) (hj : q_jmp i pc st = none) (hm : q_mem 12 false i st h = none) (hir : i ≠ .ireturn) (hinv : q_inv 12 i st h = some (k, as, r)) (hsl : (lg_sl as).length ≤ (q_ms k).2.2.2.1 ∧ (q_ms k).2.2.2.1 ≤ 80 ∧ (r.map fun v => v.category).sum ≤ 8) (hrun : ∃ N, q_run N d (q_ms k) 0 (lv_args 0 as) [] h = some (.inl v, h')) (x : qV d (pc + 3) L (v.toList ++ r) h') : qV d pc L st h := by
  obtain ⟨N1, hrun⟩ := hrun
  obtain ⟨N, F, h2, hr, hb⟩ := x
  refine ⟨max N1 N, F + 1, h2, fun env he => ?_, hb⟩
  have c1 := q_run_le _ _ _ _ _ _ _ _ hrun (max N1 N) d (Nat.le_max_left ..) (Nat.le_refl _)
  have c2 := q_lw_le _ _ _ _ _ _ _ (hr env he) (max N1 N) F (Nat.le_max_right ..) (Nat.le_refl _)
  unfold q_lw
  rw [s_none hd hl ho ho2 hj hm env]
  dsimp only
  rw [hd]
  dsimp only
  rw [if_neg (fun q => hir q.1)]
  have hinv' : q_inv qML.2.1 i st h = some (k, as, r) := hinv
  rw [hinv']
  dsimp only
  rw [if_pos ⟨rfl, hsl⟩, c1]
  exact c2
theorem v_wrap {idx k : Nat} {v : Option Value} {h' : qH} (hd : decode qML.2.2.1 pc = .ok (.invokestatic idx, 3)) (hm : q_mem 12 false (.invokestatic idx) st h = none) (hinv : q_inv 12 (.invokestatic idx) st h = none) (hw : q_wl idx = some k) (hsl : (q_wm k).1.2.2.2.2.2.1 ≤ st.length ∧ (lg_sl (st.take (q_wm k).1.2.2.2.2.2.1).reverse).length ≤ (q_wm k).1.2.2.2.1 ∧ (q_wm k).1.2.2.2.1 ≤ 80 ∧ ((st.drop (q_wm k).1.2.2.2.2.2.1).map fun v => v.category).sum ≤ 8) (hrun : ∃ N F, q_wr N d (q_wm k) F 0 (lv_args 0 (st.take (q_wm k).1.2.2.2.2.2.1).reverse) [] h = some (v, h')) (x : qV d (pc + 3) L (v.toList ++ st.drop (q_wm k).1.2.2.2.2.2.1) h') : qV d pc L st h := by
  obtain ⟨N1, F1, hrun⟩ := hrun
  obtain ⟨N, F, h2, hr, hb⟩ := x
  refine ⟨max (max N1 F1) N, F + 1, h2, fun env he => ?_, hb⟩
  have c1 := q_wr_le _ _ _ _ _ _ _ hrun (max (max N1 F1) N) (max (max N1 F1) N) (by omega) (by omega)
  have c2 := q_lw_le _ _ _ _ _ _ _ (hr env he) (max (max N1 F1) N) F (by omega) (Nat.le_refl _)
  unfold q_lw
  rw [s_none hd rfl rfl (fun _ => rfl) rfl hm env]
  dsimp only
  rw [hd]
  dsimp only
  rw [if_neg (fun q => by cases q.1)]
  have hinv' : q_inv qML.2.1 (.invokestatic idx) st h = none := hinv
  rw [hinv']
  dsimp only
  rw [hw]
  dsimp only
  rw [if_pos ⟨rfl, hsl⟩, c1]
  exact c2
/-- a wrapper answers -/
theorem u_ret {z : Int} (hd : decode w.1.2.2.1 pc = .ok (.ireturn, 1)) (hrt : w.1.2.2.2.2.1 = some .int) (x : Q (some (iv z)) h) : qU d w pc L [iv z] h Q := by
  refine ⟨0, 1, some (iv z), h, fun env _ => ?_, x⟩
  unfold q_wr
  rw [s_none hd rfl rfl (fun _ => rfl) rfl rfl env]
  dsimp only
  rw [hd]
  dsimp only
  have : q_ret w.1.2.2.2.2.1 .ireturn [iv z] = some (some (iv z)) := by
    rw [hrt]
    show (if narrow .int (iv z) = iv z then some (some (iv z)) else none) = _
    exact if_pos rfl
  rw [this]
  rfl
/-- where a wrapper goes on with what was thrown -/
def hTo (w : qM × qHT) (pc : Nat) (E : String) (hq : Nat) : Prop := ∃ hp, q_han w.2 pc E = some hp ∧ ((∃ j, decode w.1.2.2.1 hp = .ok (.astore_n j, 1) ∧ (j : Nat) < w.1.2.2.2.1 ∧ hq = hp + 1) ∨ (∃ j, decode w.1.2.2.1 hp = .ok (.astore j, 2) ∧ j < w.1.2.2.2.1 ∧ hq = hp + 2))
theorem u_call {idx k' np nL n : Nat} {as r : List Value} (hd : decode w.1.2.2.1 pc = .ok (.invokevirtual idx, 3)) (hown : w.1.2.1 = 12) (hmt : q_mth 12 idx = some k') (hk : (q_ms k').1 = 0 ∧ (q_ms k').2.1 = 10 ∧ (q_ms k').2.2.2.2.2.1 = np) (hlen : as.length = np) (hN : (q_ms k').2.2.2.1 = nL) (hs1 : Nat.ble (lg_sl (.ref 0 :: as)).length nL = true) (hs2 : Nat.ble nL 80 = true) (hs3 : Nat.ble (r.map fun v => v.category).sum 8 = true) (hcat : as.all (fun v => v.category == 1) = true) (hob : ∃ vs, h.1 0 = some (.inr (10, vs)))
    (x : ∃ (N : Nat) (o : qO) (h' : qH), (∀ env, EL env ((.ref 0 :: as).map some ++ List.replicate n none) → q_run N d (q_ms k') 0 env [] h = some (o, h')) ∧ ((∃ v, o = .inl v ∧ qU d w (pc + 3) L (v.toList ++ r) h' Q) ∨ (∃ E hq, o = .inr E ∧ hTo w pc E hq ∧ qU d w hq [] [] h' Q))) : qU d w pc L (as.reverse ++ .ref 0 :: r) h Q := by
  obtain ⟨N1, o, h1, hrun, hx⟩ := x
  have hrun' := hrun (lv_args 0 (.ref 0 :: as)) (fun i v q => by
    have := EL_args (.ref 0 :: as) 0 n (fun v hv => by
      rcases List.mem_cons.mp hv with rfl | z
      · rfl
      · simpa using List.all_eq_true.mp hcat v z) i v q
    rwa [Nat.zero_add] at this)
  have hst : q_step w.1 pc = fun env st h => q_step w.1 pc env st h := rfl
  obtain ⟨vs, hob⟩ := hob
  have hl2 : as.reverse.length = np := by rw [List.length_reverse]; exact hlen
  have hinv : q_inv w.1.2.1 (.invokevirtual idx) (as.reverse ++ .ref 0 :: r) h = some (k', .ref 0 :: as, r) := by
    show (match q_mth w.1.2.1 idx with | some k => _ | none => _) = _
    rw [hown, hmt]
    dsimp only
    obtain ⟨e1, e2, e3⟩ := hk
    rw [e1, e3, if_pos ⟨rfl, by simp; omega⟩, List.drop_left' hl2]
    dsimp only
    rw [hob]
    dsimp only
    rw [e2, if_pos ⟨rfl, by decide⟩, List.take_left' hl2, List.reverse_reverse]
  have hcond : (3 : Nat) = 3 ∧ (q_ms k').1 = 0 ∧ (lg_sl (.ref 0 :: as)).length ≤ (q_ms k').2.2.2.1 ∧ (q_ms k').2.2.2.1 ≤ 80 ∧ (r.map fun v => v.category).sum ≤ 8 := ⟨rfl, hk.1, by rw [hN]; exact Nat.le_of_ble_eq_true hs1, by rw [hN]; exact Nat.le_of_ble_eq_true hs2, Nat.le_of_ble_eq_true hs3⟩
  rcases hx with ⟨v, rfl, N2, F2, v2, h2, hr2, hq2⟩ | ⟨E, hq, rfl, ⟨hp, hh, hj⟩, N2, F2, v2, h2, hr2, hq2⟩
  · refine ⟨max N1 N2, F2 + 1, v2, h2, fun env he => ?_, hq2⟩
    have c1 := q_run_le _ _ _ _ _ _ _ _ hrun' (max N1 N2) d (Nat.le_max_left ..) (Nat.le_refl _)
    have c2 := q_wr_le _ _ _ _ _ _ _ (hr2 env he) (max N1 N2) F2 (Nat.le_max_right ..) (Nat.le_refl _)
    unfold q_wr
    rw [s_none hd rfl rfl (fun _ => rfl) rfl rfl env]
    dsimp only
    rw [hd]
    dsimp only
    rw [show q_ret w.1.2.2.2.2.1 (.invokevirtual idx) (as.reverse ++ .ref 0 :: r) = none from rfl]
    dsimp only
    rw [hinv]
    dsimp only
    rw [if_pos hcond, c1]
    exact c2
  · refine ⟨max N1 N2, F2 + 1, v2, h2, fun env he => ?_, hq2⟩
    have c1 := q_run_le _ _ _ _ _ _ _ _ hrun' (max N1 N2) d (Nat.le_max_left ..) (Nat.le_refl _)
    have c2 : ∀ env, q_wr (max N1 N2) d w F2 hq env [] h1 = some (v2, h2) := fun env => q_wr_le _ _ _ _ _ _ _ (hr2 env (fun i v q => by cases q)) (max N1 N2) F2 (Nat.le_max_right ..) (Nat.le_refl _)
    unfold q_wr
    rw [s_none hd rfl rfl (fun _ => rfl) rfl rfl env]
    dsimp only
    rw [hd]
    dsimp only
    rw [show q_ret w.1.2.2.2.2.1 (.invokevirtual idx) (as.reverse ++ .ref 0 :: r) = none from rfl]
    dsimp only
    rw [hinv]
    dsimp only
    rw [if_pos hcond, c1]
    dsimp only
    rw [hh]
    dsimp only
    rcases hj with ⟨j, e1, e2, rfl⟩ | ⟨j, e1, e2, rfl⟩
    · rw [e1]
      show (if (j : Nat) < w.1.2.2.2.1 then q_wr (max N1 N2) d w F2 (hp + 1) (q_rmv env j) [] h1 else none) = some (v2, h2)
      rw [if_pos e2]
      exact c2 _
    · rw [e1]
      show (if j < w.1.2.2.2.1 then q_wr (max N1 N2) d w F2 (hp + 2) (q_rmv env j) [] h1 else none) = some (v2, h2)
      rw [if_pos e2]
      exact c2 _
end SR
