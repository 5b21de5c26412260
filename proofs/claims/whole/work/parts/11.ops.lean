/-- the length of an instruction, where it has one -/
def q_len : Instr → Nat
  | .bipush _ => 2
  | .sipush _ => 3
  | .iload _ => 2
  | .lload _ => 2
  | .aload _ => 2
  | .istore _ => 2
  | .lstore _ => 2
  | .astore _ => 2
  | .iinc _ _ => 3
  | .goto _ => 3
  | .if_icmp _ _ => 3
  | .ifCond _ _ => 3
  | .ifnonnull _ => 3
  | .getfield _ => 3
  | .putfield _ => 3
  | .getstatic _ => 3
  | .invokevirtual _ => 3
  | .invokestatic _ => 3
  | .invokespecial _ => 3
  | .new _ => 3
  | .anewarray _ => 3
  | .newarray _ => 2
  | .ldc _ => 2
  | .ldc_w _ => 3
  | .ldc2_w _ => 3
  | _ => 1
/-- a pure value, as the machine has it -/
def qv (ad : Nat → Nat) : Value → Value
  | .ref a => .ref (ad a)
  | v => v
theorem qv_cat (ad : Nat → Nat) (v : Value) : (qv ad v).category = v.category := by cases v <;> rfl
theorem qv_cats (ad : Nat → Nat) (st : List Value) : ((st.map (qv ad)).map fun v => v.category) = st.map fun v => v.category := by
  rw [List.map_map]
  exact List.map_congr_left (fun v _ => qv_cat ad v)
section QOP
variable {p : Program} {l : Launch} {e : Env} {R : Room} {s : State} {m : MethodId} {args : Array Value} {below : List Frame} {meth : Method} {c : Code} {H : Heap} {locs : List Loc} {cells slots : Nat} {Q : State → Prop}
variable {cc : ByteArray} {pc : Nat} {ls : Array Slot}
theorem q_ii_eq {f : Int32 → Int32 → Int32} {st st' : List Value} (h : q_ii f st = some st') : ∃ x y r, st = .int y :: .int x :: r ∧ st' = .int (f x y) :: r := by
  unfold q_ii at h
  split at h
  · cases h; exact ⟨_, _, _, rfl, rfl⟩
  · cases h
theorem q_ll_eq {f : Int64 → Int64 → Int64} {st st' : List Value} (h : q_ll f st = some st') : ∃ x y r, st = .long y :: .long x :: r ∧ st' = .long (f x y) :: r := by
  unfold q_ll at h
  split at h
  · cases h; exact ⟨_, _, _, rfl, rfl⟩
  · cases h
theorem q_li_eq {f : Int64 → Int32 → Int64} {st st' : List Value} (h : q_li f st = some st') : ∃ x y r, st = .int y :: .long x :: r ∧ st' = .long (f x y) :: r := by
  unfold q_li at h
  split at h
  · cases h; exact ⟨_, _, _, rfl, rfl⟩
  · cases h
theorem q_div_eq {f : Int32 → Int32 → Int32} {st st' : List Value} (h : q_div f st = some st') : ∃ x y r, ¬ y = 0 ∧ st = .int y :: .int x :: r ∧ st' = .int (f x y) :: r := by
  unfold q_div at h
  split at h
  · split at h
    · cases h
    · cases h; exact ⟨_, _, _, by assumption, rfl, rfl⟩
  · cases h
set_option maxHeartbeats 4000000 in
theorem q_op_W (ad : Nat → Nat) (hx : p.tables.exec = Jvm.exec) (hb : c.code = cc) {i : Instr} {len : Nat} {st st' : List Value} (hd : decode cc pc = .ok (i, len)) (hlen : len = q_len i) (h : q_op i st = some st')
    (k : W p l e R s m args below meth c H locs cells slots Q (F0 m (pc + len) ls (st'.map (qv ad)))) : W p l e R s m args below meth c H locs cells slots Q (F0 m pc ls (st.map (qv ad))) := by
  unfold q_op at h
  split at h
  · cases h; subst hlen; exact lv_iconst hx hb hd rfl k
  · cases h; subst hlen; exact lv_bipush hx hb hd rfl k
  · cases h; subst hlen; exact lv_sipush hx hb hd rfl k
  · cases h; subst hlen; exact lv_lconst hx hb hd rfl k
  · obtain ⟨x, y, r, rfl, rfl⟩ := q_ii_eq h; subst hlen; exact lv_iadd hx hb hd k
  · obtain ⟨x, y, r, rfl, rfl⟩ := q_ii_eq h; subst hlen; exact lv_isub hx hb hd k
  · obtain ⟨x, y, r, rfl, rfl⟩ := q_ii_eq h; subst hlen; exact lv_imul hx hb hd k
  · obtain ⟨x, y, r, rfl, rfl⟩ := q_ii_eq h; subst hlen; exact lv_iand hx hb hd k
  · obtain ⟨x, y, r, rfl, rfl⟩ := q_ii_eq h; subst hlen; exact lv_ior hx hb hd k
  · obtain ⟨x, y, r, rfl, rfl⟩ := q_ii_eq h; subst hlen; exact lv_ixor hx hb hd k
  · obtain ⟨x, y, r, rfl, rfl⟩ := q_ii_eq h; subst hlen; exact lv_ishl hx hb hd k
  · obtain ⟨x, y, r, rfl, rfl⟩ := q_ii_eq h; subst hlen; exact lv_ishr hx hb hd k
  · obtain ⟨x, y, r, rfl, rfl⟩ := q_ii_eq h; subst hlen; exact lv_iushr hx hb hd rfl k
  · obtain ⟨x, y, r, hne, rfl, rfl⟩ := q_div_eq h; subst hlen; exact lv_idiv hx hb hd hne k
  · obtain ⟨x, y, r, hne, rfl, rfl⟩ := q_div_eq h; subst hlen; exact lv_irem hx hb hd hne k
  · obtain ⟨x, y, r, rfl, rfl⟩ := q_ll_eq h; subst hlen; exact lv_land hx hb hd k
  · obtain ⟨x, y, r, rfl, rfl⟩ := q_ll_eq h; subst hlen; exact lv_lor hx hb hd k
  · obtain ⟨x, y, r, rfl, rfl⟩ := q_ll_eq h; subst hlen; exact lv_lxor hx hb hd k
  · obtain ⟨x, y, r, rfl, rfl⟩ := q_li_eq h; subst hlen; exact lv_lshl hx hb hd rfl k
  · obtain ⟨x, y, r, rfl, rfl⟩ := q_li_eq h; subst hlen; exact lv_lshr hx hb hd rfl k
  · split at h
    · cases h; subst hlen; exact W.lcmp hx hb hd k
    · cases h
  · split at h
    · cases h; subst hlen; exact lv_i2l hx hb hd rfl k
    · cases h
  · split at h
    · cases h; subst hlen; exact lv_i2b hx hb hd rfl k
    · cases h
  · split at h
    · cases h; subst hlen; exact lv_dup hx hb hd rfl k
    · cases h; subst hlen; exact lv_dup hx hb hd rfl k
    · cases h
  · split at h
    · cases h; subst hlen; exact lv_pop hx hb hd rfl k
    · cases h; subst hlen; exact lv_pop hx hb hd rfl k
    · cases h
  · split at h
    · cases h; subst hlen; exact lv_dup2_11 hx hb hd rfl rfl k
    · cases h; subst hlen; exact lv_dup2_11 hx hb hd rfl rfl k
    · cases h
  · cases h
/-- the locals, as the machine has them -/
def qm (ad : Nat → Nat) (env : qL) : qL := env.map (fun q => (q.1, qv ad q.2))
theorem q_get_at {env : qL} {i : Nat} {v : Value} (h : q_get env i = some v) : ∃ j : Nat, env[j]? = some (i, v) := by
  unfold q_get at h
  cases hf : env.find? (fun q => q.1 == i) with
  | none => rw [hf] at h; cases h
  | some q =>
    rw [hf] at h
    have e1 : q.2 = v := by simpa using h
    have e2 : q.1 = i := by simpa using List.find?_some hf
    obtain ⟨j, hj⟩ := List.getElem?_of_mem (List.mem_of_find?_eq_some hf)
    exact ⟨j, by rw [hj, ← e1, ← e2]⟩
theorem qm_get (ad : Nat → Nat) {env : qL} {i nL : Nat} {v : Value} (h : q_get env i = some v) (hl : lv_has ls nL (qm ad env)) : ls[i]? = some (.val (qv ad v)) := by
  unfold q_get at h
  cases hf : env.find? (fun q => q.1 == i) with
  | none => rw [hf] at h; cases h
  | some q =>
    rw [hf] at h
    cases h
    have h1 : q ∈ env := List.mem_of_find?_eq_some hf
    have h2 : (q.1 == i) = true := by simpa using List.find?_some hf
    have h3 : q.1 = i := by simpa using h2
    have := hl.2.2 (q.1, qv ad q.2) (List.mem_map.mpr ⟨q, h1, rfl⟩)
    rw [h3] at this
    exact this
theorem qm_set (ad : Nat → Nat) (env : qL) (i : Nat) (v : Value) : (i, qv ad v) :: (qm ad env).filter (fun q => !(q.1 == i) && !(q.1 + 1 == i && q.2.category == 2)) = qm ad (q_set env i v) := by
  unfold qm q_set
  rw [List.map_cons, List.filter_map]
  congr 2
  apply List.filter_congr
  intro q _
  simp [qv_cat]
theorem qm_set2 (ad : Nat → Nat) (env : qL) (i : Nat) (v : Value) : (i, qv ad v) :: (qm ad env).filter (fun q => !(q.1 == i) && (!(q.1 == i + 1) && !(q.1 + 1 == i && q.2.category == 2))) = qm ad (q_set2 env i v) := by
  unfold qm q_set2
  rw [List.map_cons, List.filter_map]
  congr 2
  apply List.filter_congr
  intro q _
  simp [qv_cat]
theorem q_isI_eq {v : Value} (h : q_isI v = true) : ∃ x, v = .int x := by
  cases v <;> first | exact ⟨_, rfl⟩ | cases h
theorem q_isL_eq {v : Value} (h : q_isL v = true) : ∃ x, v = .long x := by
  cases v <;> first | exact ⟨_, rfl⟩ | cases h
theorem q_isA_eq {v : Value} (h : q_isA v = true) : ∃ x, v = .ref x := by
  cases v <;> first | exact ⟨_, rfl⟩ | cases h
theorem q_ldk_eq {ok : Value → Bool} {env env' : qL} {i : Nat} {st st' : List Value} (h : q_ldk ok env i st = some (env', st')) : ∃ v, q_get env i = some v ∧ ok v = true ∧ env' = env ∧ st' = v :: st := by
  unfold q_ldk at h
  split at h
  · split at h
    · cases h; exact ⟨_, by assumption, by assumption, rfl, rfl⟩
    · cases h
  · cases h
theorem q_st1_eq {ok : Value → Bool} {nL : Nat} {env env' : qL} {i : Nat} {st st' : List Value} (h : q_st1 ok nL env i st = some (env', st')) : ∃ v, st = v :: st' ∧ ok v = true ∧ i < nL ∧ env' = q_set env i v := by
  unfold q_st1 at h
  split at h
  · split at h
    · rename_i hc
      cases h; exact ⟨_, rfl, hc.1, hc.2, rfl⟩
    · cases h
  · cases h
theorem q_st2_eq {nL : Nat} {env env' : qL} {i : Nat} {st st' : List Value} (h : q_st2 nL env i st = some (env', st')) : ∃ v, st = v :: st' ∧ q_isL v = true ∧ i + 1 < nL ∧ env' = q_set2 env i v := by
  unfold q_st2 at h
  split at h
  · split at h
    · rename_i hc
      cases h; exact ⟨_, rfl, hc.1, hc.2, rfl⟩
    · cases h
  · cases h
set_option maxHeartbeats 4000000 in
theorem q_loc_W (ad : Nat → Nat) (hx : p.tables.exec = Jvm.exec) (hb : c.code = cc) {nL : Nat} {i : Instr} {len : Nat} {env env' : qL} {st st' : List Value} (hd : decode cc pc = .ok (i, len)) (hlen : len = q_len i) (h : q_loc nL i len env st = some (env', st')) (hl : lv_has ls nL (qm ad env))
    (k : ∀ ls' : Array Slot, lv_has ls' nL (qm ad env') → W p l e R s m args below meth c H locs cells slots Q (F0 m (pc + len) ls' (st'.map (qv ad)))) : W p l e R s m args below meth c H locs cells slots Q (F0 m pc ls (st.map (qv ad))) := by
  unfold q_loc at h
  split at h
  · obtain ⟨v, h1, h2, rfl, rfl⟩ := q_ldk_eq h; obtain ⟨x, rfl⟩ := q_isI_eq h2; subst hlen; exact lv_iload_n hx hb hd rfl (qm_get ad h1 hl) (k ls hl)
  · obtain ⟨v, h1, h2, rfl, rfl⟩ := q_ldk_eq h; obtain ⟨x, rfl⟩ := q_isI_eq h2; subst hlen; exact lv_iload hx hb hd (qm_get ad h1 hl) (k ls hl)
  · obtain ⟨v, h1, h2, rfl, rfl⟩ := q_ldk_eq h; obtain ⟨x, rfl⟩ := q_isL_eq h2; subst hlen; exact lv_lload_n hx hb hd rfl (qm_get ad h1 hl) (k ls hl)
  · obtain ⟨v, h1, h2, rfl, rfl⟩ := q_ldk_eq h; obtain ⟨x, rfl⟩ := q_isL_eq h2; subst hlen; exact lv_lload hx hb hd (qm_get ad h1 hl) (k ls hl)
  · obtain ⟨v, h1, h2, rfl, rfl⟩ := q_ldk_eq h; obtain ⟨x, rfl⟩ := q_isA_eq h2; subst hlen; exact lv_aload_n hx hb hd rfl (qm_get ad h1 hl) (k ls hl)
  · obtain ⟨v, h1, h2, rfl, rfl⟩ := q_ldk_eq h; obtain ⟨x, rfl⟩ := q_isA_eq h2; subst hlen; exact lv_aload hx hb hd (qm_get ad h1 hl) (k ls hl)
  · obtain ⟨v, rfl, h2, h3, rfl⟩ := q_st1_eq h; obtain ⟨x, rfl⟩ := q_isI_eq h2; subst hlen; exact lv_istore_n hx hb hd rfl hl h3 (qm_set ad env _ (.int x)) k
  · obtain ⟨v, rfl, h2, h3, rfl⟩ := q_st1_eq h; obtain ⟨x, rfl⟩ := q_isI_eq h2; subst hlen; exact lv_istore hx hb hd hl h3 (qm_set ad env _ (.int x)) k
  · obtain ⟨v, rfl, h2, h3, rfl⟩ := q_st1_eq h; obtain ⟨x, rfl⟩ := q_isA_eq h2; subst hlen; exact lv_astore_n hx hb hd rfl hl h3 (qm_set ad env _ (.ref x)) k
  · obtain ⟨v, rfl, h2, h3, rfl⟩ := q_st1_eq h; obtain ⟨x, rfl⟩ := q_isA_eq h2; subst hlen; exact lv_astore hx hb hd hl h3 (qm_set ad env _ (.ref x)) k
  · obtain ⟨v, rfl, h2, h3, rfl⟩ := q_st2_eq h; obtain ⟨x, rfl⟩ := q_isL_eq h2; subst hlen; exact lv_lstore_n hx hb hd rfl hl h3 (qm_set2 ad env _ (.long x)) k
  · obtain ⟨v, rfl, h2, h3, rfl⟩ := q_st2_eq h; obtain ⟨x, rfl⟩ := q_isL_eq h2; subst hlen; exact lv_lstore hx hb hd hl h3 (qm_set2 ad env _ (.long x)) k
  · split at h
    · rename_i hg
      split at h
      · rename_i hc
        cases h
        subst hlen
        obtain ⟨j, hj⟩ := q_get_at hg
        exact lv_iinc (k := j) hx hb hd hl (by unfold qm; rw [List.getElem?_map, hj]; rfl) rfl hc.1 (qm_set ad env _ (.int _)) k
      · cases h
    · cases h
  · cases h
theorem q_tgt_eq {pc : Nat} {off : Int} {t : Nat} (h : q_tgt pc off = some t) : (pc : Int) + off = (t : Int) := by
  unfold q_tgt at h
  split at h
  · cases h; omega
  · cases h
theorem q_br_eq {b : Bool} {pc : Nat} {off : Int} {r st' : List Value} {pc' : Nat} (h : q_br b pc off r = some (pc', st')) : ∃ t, q_tgt pc off = some t ∧ pc' = (if b = true then t else pc + 3) ∧ st' = r := by
  unfold q_br at h
  split at h
  · cases h; exact ⟨_, by assumption, rfl, rfl⟩
  · cases h
theorem q_ifT {P : Prop} {b : Bool} {t u : Nat} {F : Nat → Prop} (hb : b = true ↔ P) (h : F (if b = true then t else u)) : (P → F t) ∧ (¬ P → F u) := by
  refine ⟨fun hp => ?_, fun hp => ?_⟩
  · rw [if_pos (hb.mpr hp)] at h; exact h
  · rw [if_neg (fun z => hp (hb.mp z))] at h; exact h
set_option maxHeartbeats 4000000 in
theorem q_icmp_W (ad : Nat → Nat) (hx : p.tables.exec = Jvm.exec) (hb : c.code = cc) {k0 : ClassFile.Cond} {off : Int} {t : Nat} {x y : Int32} {rest : List Value} (hd : decode cc pc = .ok (.if_icmp k0 off, 3)) (ht : (pc : Int) + off = (t : Int))
    (k : W p l e R s m args below meth c H locs cells slots Q (F0 m (if q_cmp k0 x y = true then t else pc + 3) ls rest)) : W p l e R s m args below meth c H locs cells slots Q (F0 m pc ls (.int y :: .int x :: rest)) := by
  have key : ∀ P : Prop, (q_cmp k0 x y = true ↔ P) → (P → W p l e R s m args below meth c H locs cells slots Q (F0 m t ls rest)) ∧ (¬ P → W p l e R s m args below meth c H locs cells slots Q (F0 m (pc + 3) ls rest)) := fun P hP => q_ifT (F := fun z => W p l e R s m args below meth c H locs cells slots Q (F0 m z ls rest)) hP k
  cases k0
  · have h := key (x = y) (by simp [q_cmp]); exact lv_icmp_eq hx hb hd ht h.1 h.2
  · have h := key (¬ x = y) (by simp [q_cmp]); exact lv_icmp_ne hx hb hd ht (fun z => h.1 z) (fun z => h.2 (fun w => w z))
  · have h := key (x < y) (by simp [q_cmp]); exact lv_icmp_lt hx hb hd ht h.1 h.2
  · have h := key (y ≤ x) (by simp [q_cmp]); exact lv_icmp_ge hx hb hd ht h.1 h.2
  · have h := key (y < x) (by simp [q_cmp]); exact lv_icmp_gt hx hb hd ht h.1 h.2
  · have h := key (x ≤ y) (by simp [q_cmp]); exact lv_icmp_le hx hb hd ht h.1 h.2
set_option maxHeartbeats 4000000 in
theorem q_if_W (ad : Nat → Nat) (hx : p.tables.exec = Jvm.exec) (hb : c.code = cc) {k0 : ClassFile.Cond} {off : Int} {t : Nat} {x : Int32} {rest : List Value} (hd : decode cc pc = .ok (.ifCond k0 off, 3)) (ht : (pc : Int) + off = (t : Int))
    (k : W p l e R s m args below meth c H locs cells slots Q (F0 m (if q_cmp k0 x 0 = true then t else pc + 3) ls rest)) : W p l e R s m args below meth c H locs cells slots Q (F0 m pc ls (.int x :: rest)) := by
  have key : ∀ P : Prop, (q_cmp k0 x 0 = true ↔ P) → (P → W p l e R s m args below meth c H locs cells slots Q (F0 m t ls rest)) ∧ (¬ P → W p l e R s m args below meth c H locs cells slots Q (F0 m (pc + 3) ls rest)) := fun P hP => q_ifT (F := fun z => W p l e R s m args below meth c H locs cells slots Q (F0 m z ls rest)) hP k
  cases k0
  · have h := key (x = 0) (by simp [q_cmp]); exact lv_if_eq hx hb hd ht h.1 h.2
  · have h := key (¬ x = 0) (by simp [q_cmp]); exact lv_if_ne hx hb hd ht (fun z => h.1 z) (fun z => h.2 (fun w => w z))
  · have h := key (x < 0) (by simp [q_cmp]); exact lv_if_lt hx hb hd ht h.1 h.2
  · have h := key (0 ≤ x) (by simp [q_cmp]); exact lv_if_ge hx hb hd ht h.1 h.2
  · have h := key (0 < x) (by simp [q_cmp]); exact lv_if_gt hx hb hd ht h.1 h.2
  · have h := key (x ≤ 0) (by simp [q_cmp]); exact lv_if_le hx hb hd ht h.1 h.2
set_option maxHeartbeats 4000000 in
theorem q_jmp_W (ad : Nat → Nat) (hx : p.tables.exec = Jvm.exec) (hb : c.code = cc) {i : Instr} {len : Nat} {st st' : List Value} {pc' : Nat} (hd : decode cc pc = .ok (i, len)) (hlen : len = q_len i ∨ (∃ a b d f, i = .tableswitch a b d f) ∨ ∃ a b, i = .lookupswitch a b) (h : q_jmp i pc st = some (pc', st'))
    (k : W p l e R s m args below meth c H locs cells slots Q (F0 m pc' ls (st'.map (qv ad)))) : W p l e R s m args below meth c H locs cells slots Q (F0 m pc ls (st.map (qv ad))) := by
  unfold q_jmp at h
  split at h
  · have hl : len = 3 := by rcases hlen with q | ⟨a, b, d, f, q⟩ | ⟨a, b, q⟩ <;> first | exact q | cases q
    subst hl
    split at h
    · rename_i ht; cases h; exact lv_goto hx hb hd (q_tgt_eq ht) k
    · cases h
  · have hl : len = 3 := by rcases hlen with q | ⟨a, b, d, f, q⟩ | ⟨a, b, q⟩ <;> first | exact q | cases q
    subst hl
    split at h
    · obtain ⟨t, ht, rfl, rfl⟩ := q_br_eq h
      exact q_icmp_W ad hx hb hd (q_tgt_eq ht) k
    · cases h
  · have hl : len = 3 := by rcases hlen with q | ⟨a, b, d, f, q⟩ | ⟨a, b, q⟩ <;> first | exact q | cases q
    subst hl
    split at h
    · obtain ⟨t, ht, rfl, rfl⟩ := q_br_eq h
      exact q_if_W ad hx hb hd (q_tgt_eq ht) k
    · cases h
  · have hl : len = 3 := by rcases hlen with q | ⟨a, b, d, f, q⟩ | ⟨a, b, q⟩ <;> first | exact q | cases q
    subst hl
    split at h
    · obtain ⟨t, ht, rfl, rfl⟩ := q_br_eq h
      exact lv_ifnonnull hx hb hd (q_tgt_eq ht) k
    · obtain ⟨t, ht, rfl, rfl⟩ := q_br_eq h
      exact lv_ifnonnullN hx hb hd k
    · cases h
  · split at h
    · split at h
      · rename_i hc
        obtain ⟨t, ht, e⟩ := Option.map_eq_some_iff.mp h
        cases e
        exact lv_tableOut hx hb hd hc (q_tgt_eq ht) k
      · rename_i hc
        split at h
        · rename_i ho
          obtain ⟨t, ht, e⟩ := Option.map_eq_some_iff.mp h
          cases e
          exact lv_tableIn hx hb hd (fun z => hc (Or.inl z)) (fun z => hc (Or.inr z)) ho (q_tgt_eq ht) k
        · cases h
    · cases h
  · split at h
    · split at h
      · rename_i hp
        obtain ⟨t, ht, e⟩ := Option.map_eq_some_iff.mp h
        cases e
        exact lv_lookup hx hb hd hp rfl (q_tgt_eq ht) k
      · cases h
    · cases h
  · cases h
end QOP
