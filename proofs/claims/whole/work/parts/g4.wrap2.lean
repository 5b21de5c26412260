/-! THE LAW: its wrappers (W_* written by wip/whole/gen_law.py), and what a call comes to -/
theorem m_last {own : Nat} {ini : Bool} {x : Int64} {r : List Value} {h : qH} {f : Nat → Value} (hf : h.1 159 = some (.inl (2, 1, f))) : q_mem own ini .lastore (.long x :: iv 0 :: .ref 159 :: r) h = some (r, qup h 159 (.inl (2, 1, updV f 0 (.long x)))) := by
  show (match h.1 159 with
    | some (.inl (t, n, f)) => if t = 2 ∧ 159 < 1000000000 ∧ q_idx (Int32.ofInt 0) n = true then some (r, qup h 159 (.inl (2, n, updV f (Int32.ofInt 0).toNatClampNeg (.long x)))) else none
    | _ => none) = _
  rw [hf]
  dsimp only
  rw [if_pos ⟨rfl, by decide, by decide⟩]
  rfl
theorem wtb_rg {k : Nat} (hk : k < 12) {E : String} {z : Int} (h : (E, z) ∈ wtb k) : 1 ≤ z ∧ z ≤ 5 := by
  have : ∀ k : Fin 12, (wtb k.1).all (fun e => decide (1 ≤ e.2 ∧ e.2 ≤ 5)) = true := by decide +kernel
  have := List.all_eq_true.mp (this ⟨k, hk⟩) _ h
  simpa using this
theorem iv_in {a b : Int} (e : iv a = iv b) : (Int32.ofInt a).toInt64 = (Int32.ofInt b).toInt64 := by
  unfold iv at e
  injection e with e
  rw [e]
theorem wv_in {a b : Int} (e : wv a = wv b) : Int64.ofInt a = Int64.ofInt b := by
  unfold wv at e
  injection e
theorem updV_same {f : Nat → Value} {v : Value} : updV f 0 v 0 = v := by
  unfold updV
  simp
theorem J_call {d L : Nat} {xs : Nat → Int32} {c0 s0 : Int} {h : qH} {C B : qB} {k kc km : Nat} {Lc Lm Lw : List (Option Value)} {mk : Int → Value} {lg : Int → Int64} {Q : Option Value → qH → Prop} (hj : JI L xs c0 s0 h C B)
    (pp : qY h d kc 0 Lc [] C (fun o C' => ∀ h0, qZ 112 h0 d km 0 Lm [] B (fun o' B' => PQ c0 s0 k mk o C' o' B'))) (hk : k < 12) (hmk : ∀ a b, mk a = mk b → lg a = lg b)
    (WR : ∀ Q : Option Value → qH → Prop, (∃ (N : Nat) (o : qO) (h' : qH), (∀ env, EL env Lc → q_run N d (q_ms kc) 0 env [] h = some (o, h')) ∧ ((∃ a f, o = .inl (some (mk a)) ∧ h'.1 159 = some (.inl (2, 1, f)) ∧ Q (some (iv 0)) (qup h' 159 (.inl (2, 1, updV f 0 (.long (lg a)))))) ∨ (∃ (E : String) (z : Int), (E, z) ∈ wtb k ∧ o = .inr E ∧ Q (some (iv z)) h'))) → qU d (q_wm k) 0 Lw [] h Q)
    (hQ : ∀ (z : Int) (h2 : qH) (C' : qB) (c1 s1 : Int) (out : Int64) (f : Nat → Value), h2 = hM 112 h2 B → h2 = hC h2 C' → Zr C' → h2.1 1000000001 = some (.inl (1, L, fun j => .int (xs j))) → h2.1 159 = some (.inl (2, 1, f)) → (z = 0 → f 0 = .long out) → (0 ≤ z ∧ z ≤ 5) → ((c1 = c0 ∧ s1 = s0) ∨ (c1 = c0 + 1 ∧ s1 = s0 + 6)) → qZ 112 h2 d km 0 Lm [] B (fun o' B' => ∃ a, o' = .inl (some (mk a)) ∧ B' 0 0 = z ∧ (z = 0 → out = lg a) ∧ CIv c1 s1 C' B' ∧ OI B') → Q (some (iv z)) h2) : qU d (q_wm k) 0 Lw [] h Q := by
  obtain ⟨N, o, C', hrun, hP⟩ := pp
  have hrun' : ∀ env, EL env Lc → q_run N d (q_ms kc) 0 env [] h = some (o, hC h C') := fun env he => by
    have := hrun env he
    rw [← hj.1] at this
    exact this
  obtain ⟨N2, o', B', hrun2, hPQ⟩ := hP (hC h C')
  obtain ⟨f, hf⟩ := hj.2.2.2.2.2
  rcases hPQ with ⟨a, ho, ho', hB0, hI, hO⟩ | ⟨E, z, a, hm, ho, ho', hB0, hI, hO⟩
  · have hz := hI.2.1.zr
    obtain ⟨y1, y2, y3, y4⟩ := jn_class (C' := C') hj.2.1 hz
    refine WR Q ⟨N, o, hC h C', hrun', Or.inl ⟨a, f, ho, y3.trans hf, ?_⟩⟩
    obtain ⟨u1, u2', u3, u4⟩ := jn_out (e := .inl (2, 1, updV f 0 (.long (lg a)))) y1 y2 hz
    refine hQ 0 _ C' c0 s0 (lg a) _ u2' u1 hz (u4.trans (y4.trans hj.2.2.2.2.1)) u3 (fun _ => updV_same) ⟨by decide, by decide⟩ (Or.inl ⟨rfl, rfl⟩) ?_
    obtain ⟨N3, o3, B3, hr3, hP3⟩ := hP (qup (hC h C') 159 (.inl (2, 1, updV f 0 (.long (lg a)))))
    refine ⟨N3, o3, B3, hr3, ?_⟩
    rcases hP3 with ⟨a', q1, q2, q3, q4, q5⟩ | ⟨E, z, a', _, q1, _⟩
    · refine ⟨a', q2, q3, fun _ => ?_, q4, q5⟩
      rw [ho] at q1
      injection q1 with q1
      injection q1 with q1
      exact hmk _ _ q1
    · rw [ho] at q1
      cases q1
  · have hz := hI.2.1.zr
    have hr := wtb_rg hk hm
    obtain ⟨y1, y2, y3, y4⟩ := jn_class (C' := C') hj.2.1 hz
    refine WR Q ⟨N, o, hC h C', hrun', Or.inr ⟨E, z, hm, ho, ?_⟩⟩
    exact hQ z _ C' (c0 + 1) (s0 + 6) 0 f y2 y1 hz (y4.trans hj.2.2.2.2.1) (y3.trans hf) (fun q => by omega) ⟨by omega, hr.2⟩ (Or.inr ⟨rfl, rfl⟩) ⟨N2, o', B', hrun2, a, ho', hB0, fun q => by omega, hI, hO⟩
def tw0 : List (Nat × Instr × Nat) := [(0, .aload 6, 2), (2, .iconst 0, 1), (3, .aload_n 0, 1), (4, .iload_n 1, 1), (5, .iload_n 2, 1), (6, .iload_n 3, 1), (7, .iload 4, 2), (9, .iload 5, 2), (11, .invokevirtual 7, 3), (14, .i2l, 1), (15, .lastore, 1), (16, .goto (7), 3), (19, .astore 7, 2), (21, .iconst 1, 1), (22, .ireturn, 1), (23, .iconst 0, 1), (24, .ireturn, 1)]
set_option maxRecDepth 100000 in
theorem dw0 : q_ckc (q_wm 0).1.2.2.1 tw0 = true := by decide +kernel
theorem W_feed {d : Nat} {h : qH} {x1 x2 x3 x4 x5 : Int} {Q : Option Value → qH → Prop} (hob : ∃ vs, h.1 0 = some (.inr (10, vs))) (x : ∃ (N : Nat) (o : qO) (h' : qH), (∀ env, EL env [some (.ref 0), some (iv x1), some (iv x2), some (iv x3), some (iv x4), some (iv x5)] → q_run N d (q_ms n_P_feed) 0 env [] h = some (o, h')) ∧ ((∃ a f, o = .inl (some (iv a)) ∧ h'.1 159 = some (.inl (2, 1, f)) ∧ Q (some (iv 0)) (qup h' 159 (.inl (2, 1, updV f 0 (.long ((fun a => (Int32.ofInt a).toInt64) a)))))) ∨ (∃ (E : String) (z : Int), (E, z) ∈ wtb 0 ∧ o = .inr E ∧ Q (some (iv z)) h'))) : qU d (q_wm 0) 0 [some (.ref 0), some (iv x1), some (iv x2), some (iv x3), some (iv x4), some (iv x5), some (.ref 159), none] [] h Q := by
  obtain ⟨N, o, h', hr, hx⟩ := x
  refine u_go (r_ldk (ok := q_isA) (n := 6) (ckc_at dw0 0 rfl) rfl rfl (fun _ => rfl) rfl rfl) ?_
  refine u_go (r_op (ckc_at dw0 1 rfl) rfl (o_const _)) ?_
  refine u_go (r_ldk (ok := q_isA) (n := 0) (ckc_at dw0 2 rfl) rfl rfl (fun _ => rfl) rfl rfl) ?_
  refine u_go (r_ldk (ok := q_isI) (n := 1) (ckc_at dw0 3 rfl) rfl rfl (fun _ => rfl) rfl rfl) ?_
  refine u_go (r_ldk (ok := q_isI) (n := 2) (ckc_at dw0 4 rfl) rfl rfl (fun _ => rfl) rfl rfl) ?_
  refine u_go (r_ldk (ok := q_isI) (n := 3) (ckc_at dw0 5 rfl) rfl rfl (fun _ => rfl) rfl rfl) ?_
  refine u_go (r_ldk (ok := q_isI) (n := 4) (ckc_at dw0 6 rfl) rfl rfl (fun _ => rfl) rfl rfl) ?_
  refine u_go (r_ldk (ok := q_isI) (n := 5) (ckc_at dw0 7 rfl) rfl rfl (fun _ => rfl) rfl rfl) ?_
  refine u_call (as := [iv x1, iv x2, iv x3, iv x4, iv x5]) (r := [iv 0, .ref 159]) (n := 0) (ckc_at dw0 8 rfl) rfl (by decide +kernel) vk_P_feed rfl nl_P_feed rfl rfl rfl rfl hob ⟨N, o, h', hr, ?_⟩
  rcases hx with ⟨a, f, rfl, hf, hq⟩ | ⟨E, z, hm, rfl, hq⟩
  · refine Or.inl ⟨_, rfl, ?_⟩
    refine u_go (r_op (ckc_at dw0 9 rfl) rfl rfl) ?_
    refine u_go (r_mem (ckc_at dw0 10 rfl) rfl rfl (fun _ => rfl) rfl (m_last hf)) ?_
    refine u_go (r_goto (t := 23) (ckc_at dw0 11 rfl) (by decide)) ?_
    refine u_go (r_op (ckc_at dw0 15 rfl) rfl (o_const _)) ?_
    exact u_ret (ckc_at dw0 16 rfl) rfl hq
  · change (E, z) ∈ [("java/lang/IndexOutOfBoundsException", 1)] at hm
    rcases List.mem_cons.mp hm with hm | hm
    · cases hm
      refine Or.inr ⟨_, 21, rfl, ⟨19, by decide +kernel, Or.inr ⟨7, ckc_at dw0 12 rfl, by decide, rfl⟩⟩, ?_⟩
      refine u_go (r_op (ckc_at dw0 13 rfl) rfl (o_const _)) ?_
      exact u_ret (ckc_at dw0 14 rfl) rfl hq
    cases hm
def tw1 : List (Nat × Instr × Nat) := [(0, .aload_n 2, 1), (1, .iconst 0, 1), (2, .aload_n 0, 1), (3, .iload_n 1, 1), (4, .invokevirtual 15, 3), (7, .i2l, 1), (8, .lastore, 1), (9, .goto (6), 3), (12, .astore_n 3, 1), (13, .iconst 1, 1), (14, .ireturn, 1), (15, .iconst 0, 1), (16, .ireturn, 1)]
set_option maxRecDepth 100000 in
theorem dw1 : q_ckc (q_wm 1).1.2.2.1 tw1 = true := by decide +kernel
theorem W_end {d : Nat} {h : qH} {x1 : Int} {Q : Option Value → qH → Prop} (hob : ∃ vs, h.1 0 = some (.inr (10, vs))) (x : ∃ (N : Nat) (o : qO) (h' : qH), (∀ env, EL env [some (.ref 0), some (iv x1)] → q_run N d (q_ms n_P_end) 0 env [] h = some (o, h')) ∧ ((∃ a f, o = .inl (some (iv a)) ∧ h'.1 159 = some (.inl (2, 1, f)) ∧ Q (some (iv 0)) (qup h' 159 (.inl (2, 1, updV f 0 (.long ((fun a => (Int32.ofInt a).toInt64) a)))))) ∨ (∃ (E : String) (z : Int), (E, z) ∈ wtb 1 ∧ o = .inr E ∧ Q (some (iv z)) h'))) : qU d (q_wm 1) 0 [some (.ref 0), some (iv x1), some (.ref 159), none] [] h Q := by
  obtain ⟨N, o, h', hr, hx⟩ := x
  refine u_go (r_ldk (ok := q_isA) (n := 2) (ckc_at dw1 0 rfl) rfl rfl (fun _ => rfl) rfl rfl) ?_
  refine u_go (r_op (ckc_at dw1 1 rfl) rfl (o_const _)) ?_
  refine u_go (r_ldk (ok := q_isA) (n := 0) (ckc_at dw1 2 rfl) rfl rfl (fun _ => rfl) rfl rfl) ?_
  refine u_go (r_ldk (ok := q_isI) (n := 1) (ckc_at dw1 3 rfl) rfl rfl (fun _ => rfl) rfl rfl) ?_
  refine u_call (as := [iv x1]) (r := [iv 0, .ref 159]) (n := 0) (ckc_at dw1 4 rfl) rfl (by decide +kernel) vk_P_end rfl nl_P_end rfl rfl rfl rfl hob ⟨N, o, h', hr, ?_⟩
  rcases hx with ⟨a, f, rfl, hf, hq⟩ | ⟨E, z, hm, rfl, hq⟩
  · refine Or.inl ⟨_, rfl, ?_⟩
    refine u_go (r_op (ckc_at dw1 5 rfl) rfl rfl) ?_
    refine u_go (r_mem (ckc_at dw1 6 rfl) rfl rfl (fun _ => rfl) rfl (m_last hf)) ?_
    refine u_go (r_goto (t := 15) (ckc_at dw1 7 rfl) (by decide)) ?_
    refine u_go (r_op (ckc_at dw1 11 rfl) rfl (o_const _)) ?_
    exact u_ret (ckc_at dw1 12 rfl) rfl hq
  · change (E, z) ∈ [("java/lang/IllegalArgumentException", 1)] at hm
    rcases List.mem_cons.mp hm with hm | hm
    · cases hm
      refine Or.inr ⟨_, 13, rfl, ⟨12, by decide +kernel, Or.inl ⟨3, ckc_at dw1 8 rfl, by decide, rfl⟩⟩, ?_⟩
      refine u_go (r_op (ckc_at dw1 9 rfl) rfl (o_const _)) ?_
      exact u_ret (ckc_at dw1 10 rfl) rfl hq
    cases hm
def tw2 : List (Nat × Instr × Nat) := [(0, .aload_n 2, 1), (1, .iconst 0, 1), (2, .aload_n 0, 1), (3, .iload_n 1, 1), (4, .invokevirtual 21, 3), (7, .i2l, 1), (8, .lastore, 1), (9, .goto (12), 3), (12, .astore_n 3, 1), (13, .iconst 1, 1), (14, .ireturn, 1), (15, .astore_n 3, 1), (16, .iconst 2, 1), (17, .ireturn, 1), (18, .astore_n 3, 1), (19, .iconst 3, 1), (20, .ireturn, 1), (21, .iconst 0, 1), (22, .ireturn, 1)]
set_option maxRecDepth 100000 in
theorem dw2 : q_ckc (q_wm 2).1.2.2.1 tw2 = true := by decide +kernel
theorem W_pattern {d : Nat} {h : qH} {x1 : Int} {Q : Option Value → qH → Prop} (hob : ∃ vs, h.1 0 = some (.inr (10, vs))) (x : ∃ (N : Nat) (o : qO) (h' : qH), (∀ env, EL env [some (.ref 0), some (iv x1), none, none] → q_run N d (q_ms n_P_pattern) 0 env [] h = some (o, h')) ∧ ((∃ a f, o = .inl (some (iv a)) ∧ h'.1 159 = some (.inl (2, 1, f)) ∧ Q (some (iv 0)) (qup h' 159 (.inl (2, 1, updV f 0 (.long ((fun a => (Int32.ofInt a).toInt64) a)))))) ∨ (∃ (E : String) (z : Int), (E, z) ∈ wtb 2 ∧ o = .inr E ∧ Q (some (iv z)) h'))) : qU d (q_wm 2) 0 [some (.ref 0), some (iv x1), some (.ref 159), none] [] h Q := by
  obtain ⟨N, o, h', hr, hx⟩ := x
  refine u_go (r_ldk (ok := q_isA) (n := 2) (ckc_at dw2 0 rfl) rfl rfl (fun _ => rfl) rfl rfl) ?_
  refine u_go (r_op (ckc_at dw2 1 rfl) rfl (o_const _)) ?_
  refine u_go (r_ldk (ok := q_isA) (n := 0) (ckc_at dw2 2 rfl) rfl rfl (fun _ => rfl) rfl rfl) ?_
  refine u_go (r_ldk (ok := q_isI) (n := 1) (ckc_at dw2 3 rfl) rfl rfl (fun _ => rfl) rfl rfl) ?_
  refine u_call (as := [iv x1]) (r := [iv 0, .ref 159]) (n := 2) (ckc_at dw2 4 rfl) rfl (by decide +kernel) vk_P_pattern rfl nl_P_pattern rfl rfl rfl rfl hob ⟨N, o, h', hr, ?_⟩
  rcases hx with ⟨a, f, rfl, hf, hq⟩ | ⟨E, z, hm, rfl, hq⟩
  · refine Or.inl ⟨_, rfl, ?_⟩
    refine u_go (r_op (ckc_at dw2 5 rfl) rfl rfl) ?_
    refine u_go (r_mem (ckc_at dw2 6 rfl) rfl rfl (fun _ => rfl) rfl (m_last hf)) ?_
    refine u_go (r_goto (t := 21) (ckc_at dw2 7 rfl) (by decide)) ?_
    refine u_go (r_op (ckc_at dw2 17 rfl) rfl (o_const _)) ?_
    exact u_ret (ckc_at dw2 18 rfl) rfl hq
  · change (E, z) ∈ [("java/lang/IllegalArgumentException", 1), ("java/lang/UnsupportedOperationException", 2), ("java/lang/IndexOutOfBoundsException", 3)] at hm
    rcases List.mem_cons.mp hm with hm | hm
    · cases hm
      refine Or.inr ⟨_, 13, rfl, ⟨12, by decide +kernel, Or.inl ⟨3, ckc_at dw2 8 rfl, by decide, rfl⟩⟩, ?_⟩
      refine u_go (r_op (ckc_at dw2 9 rfl) rfl (o_const _)) ?_
      exact u_ret (ckc_at dw2 10 rfl) rfl hq
    rcases List.mem_cons.mp hm with hm | hm
    · cases hm
      refine Or.inr ⟨_, 16, rfl, ⟨15, by decide +kernel, Or.inl ⟨3, ckc_at dw2 11 rfl, by decide, rfl⟩⟩, ?_⟩
      refine u_go (r_op (ckc_at dw2 12 rfl) rfl (o_const _)) ?_
      exact u_ret (ckc_at dw2 13 rfl) rfl hq
    rcases List.mem_cons.mp hm with hm | hm
    · cases hm
      refine Or.inr ⟨_, 19, rfl, ⟨18, by decide +kernel, Or.inl ⟨3, ckc_at dw2 14 rfl, by decide, rfl⟩⟩, ?_⟩
      refine u_go (r_op (ckc_at dw2 15 rfl) rfl (o_const _)) ?_
      exact u_ret (ckc_at dw2 16 rfl) rfl hq
    cases hm
def tw3 : List (Nat × Instr × Nat) := [(0, .aload_n 2, 1), (1, .iconst 0, 1), (2, .aload_n 0, 1), (3, .iload_n 1, 1), (4, .invokevirtual 26, 3), (7, .i2l, 1), (8, .lastore, 1), (9, .goto (9), 3), (12, .astore_n 3, 1), (13, .iconst 1, 1), (14, .ireturn, 1), (15, .astore_n 3, 1), (16, .iconst 2, 1), (17, .ireturn, 1), (18, .iconst 0, 1), (19, .ireturn, 1)]
set_option maxRecDepth 100000 in
theorem dw3 : q_ckc (q_wm 3).1.2.2.1 tw3 = true := by decide +kernel
theorem W_text {d : Nat} {h : qH} {x1 : Int} {Q : Option Value → qH → Prop} (hob : ∃ vs, h.1 0 = some (.inr (10, vs))) (x : ∃ (N : Nat) (o : qO) (h' : qH), (∀ env, EL env [some (.ref 0), some (iv x1), none, none] → q_run N d (q_ms n_P_text) 0 env [] h = some (o, h')) ∧ ((∃ a f, o = .inl (some (iv a)) ∧ h'.1 159 = some (.inl (2, 1, f)) ∧ Q (some (iv 0)) (qup h' 159 (.inl (2, 1, updV f 0 (.long ((fun a => (Int32.ofInt a).toInt64) a)))))) ∨ (∃ (E : String) (z : Int), (E, z) ∈ wtb 3 ∧ o = .inr E ∧ Q (some (iv z)) h'))) : qU d (q_wm 3) 0 [some (.ref 0), some (iv x1), some (.ref 159), none] [] h Q := by
  obtain ⟨N, o, h', hr, hx⟩ := x
  refine u_go (r_ldk (ok := q_isA) (n := 2) (ckc_at dw3 0 rfl) rfl rfl (fun _ => rfl) rfl rfl) ?_
  refine u_go (r_op (ckc_at dw3 1 rfl) rfl (o_const _)) ?_
  refine u_go (r_ldk (ok := q_isA) (n := 0) (ckc_at dw3 2 rfl) rfl rfl (fun _ => rfl) rfl rfl) ?_
  refine u_go (r_ldk (ok := q_isI) (n := 1) (ckc_at dw3 3 rfl) rfl rfl (fun _ => rfl) rfl rfl) ?_
  refine u_call (as := [iv x1]) (r := [iv 0, .ref 159]) (n := 2) (ckc_at dw3 4 rfl) rfl (by decide +kernel) vk_P_text rfl nl_P_text rfl rfl rfl rfl hob ⟨N, o, h', hr, ?_⟩
  rcases hx with ⟨a, f, rfl, hf, hq⟩ | ⟨E, z, hm, rfl, hq⟩
  · refine Or.inl ⟨_, rfl, ?_⟩
    refine u_go (r_op (ckc_at dw3 5 rfl) rfl rfl) ?_
    refine u_go (r_mem (ckc_at dw3 6 rfl) rfl rfl (fun _ => rfl) rfl (m_last hf)) ?_
    refine u_go (r_goto (t := 18) (ckc_at dw3 7 rfl) (by decide)) ?_
    refine u_go (r_op (ckc_at dw3 14 rfl) rfl (o_const _)) ?_
    exact u_ret (ckc_at dw3 15 rfl) rfl hq
  · change (E, z) ∈ [("java/lang/IllegalArgumentException", 1), ("java/lang/IndexOutOfBoundsException", 2)] at hm
    rcases List.mem_cons.mp hm with hm | hm
    · cases hm
      refine Or.inr ⟨_, 13, rfl, ⟨12, by decide +kernel, Or.inl ⟨3, ckc_at dw3 8 rfl, by decide, rfl⟩⟩, ?_⟩
      refine u_go (r_op (ckc_at dw3 9 rfl) rfl (o_const _)) ?_
      exact u_ret (ckc_at dw3 10 rfl) rfl hq
    rcases List.mem_cons.mp hm with hm | hm
    · cases hm
      refine Or.inr ⟨_, 16, rfl, ⟨15, by decide +kernel, Or.inl ⟨3, ckc_at dw3 11 rfl, by decide, rfl⟩⟩, ?_⟩
      refine u_go (r_op (ckc_at dw3 12 rfl) rfl (o_const _)) ?_
      exact u_ret (ckc_at dw3 13 rfl) rfl hq
    cases hm
def tw4 : List (Nat × Instr × Nat) := [(0, .aload 5, 2), (2, .iconst 0, 1), (3, .aload_n 0, 1), (4, .iload_n 1, 1), (5, .iload_n 2, 1), (6, .iload_n 3, 1), (7, .iload 4, 2), (9, .invokevirtual 29, 3), (12, .i2l, 1), (13, .lastore, 1), (14, .goto (15), 3), (17, .astore 6, 2), (19, .iconst 1, 1), (20, .ireturn, 1), (21, .astore 6, 2), (23, .iconst 2, 1), (24, .ireturn, 1), (25, .astore 6, 2), (27, .iconst 3, 1), (28, .ireturn, 1), (29, .iconst 0, 1), (30, .ireturn, 1)]
set_option maxRecDepth 100000 in
theorem dw4 : q_ckc (q_wm 4).1.2.2.1 tw4 = true := by decide +kernel
theorem W_match {d : Nat} {h : qH} {x1 x2 x3 x4 : Int} {Q : Option Value → qH → Prop} (hob : ∃ vs, h.1 0 = some (.inr (10, vs))) (x : ∃ (N : Nat) (o : qO) (h' : qH), (∀ env, EL env [some (.ref 0), some (iv x1), some (iv x2), some (iv x3), some (iv x4), none, none, none, none] → q_run N d (q_ms n_P_match) 0 env [] h = some (o, h')) ∧ ((∃ a f, o = .inl (some (iv a)) ∧ h'.1 159 = some (.inl (2, 1, f)) ∧ Q (some (iv 0)) (qup h' 159 (.inl (2, 1, updV f 0 (.long ((fun a => (Int32.ofInt a).toInt64) a)))))) ∨ (∃ (E : String) (z : Int), (E, z) ∈ wtb 4 ∧ o = .inr E ∧ Q (some (iv z)) h'))) : qU d (q_wm 4) 0 [some (.ref 0), some (iv x1), some (iv x2), some (iv x3), some (iv x4), some (.ref 159), none] [] h Q := by
  obtain ⟨N, o, h', hr, hx⟩ := x
  refine u_go (r_ldk (ok := q_isA) (n := 5) (ckc_at dw4 0 rfl) rfl rfl (fun _ => rfl) rfl rfl) ?_
  refine u_go (r_op (ckc_at dw4 1 rfl) rfl (o_const _)) ?_
  refine u_go (r_ldk (ok := q_isA) (n := 0) (ckc_at dw4 2 rfl) rfl rfl (fun _ => rfl) rfl rfl) ?_
  refine u_go (r_ldk (ok := q_isI) (n := 1) (ckc_at dw4 3 rfl) rfl rfl (fun _ => rfl) rfl rfl) ?_
  refine u_go (r_ldk (ok := q_isI) (n := 2) (ckc_at dw4 4 rfl) rfl rfl (fun _ => rfl) rfl rfl) ?_
  refine u_go (r_ldk (ok := q_isI) (n := 3) (ckc_at dw4 5 rfl) rfl rfl (fun _ => rfl) rfl rfl) ?_
  refine u_go (r_ldk (ok := q_isI) (n := 4) (ckc_at dw4 6 rfl) rfl rfl (fun _ => rfl) rfl rfl) ?_
  refine u_call (as := [iv x1, iv x2, iv x3, iv x4]) (r := [iv 0, .ref 159]) (n := 4) (ckc_at dw4 7 rfl) rfl (by decide +kernel) vk_P_match rfl nl_P_match rfl rfl rfl rfl hob ⟨N, o, h', hr, ?_⟩
  rcases hx with ⟨a, f, rfl, hf, hq⟩ | ⟨E, z, hm, rfl, hq⟩
  · refine Or.inl ⟨_, rfl, ?_⟩
    refine u_go (r_op (ckc_at dw4 8 rfl) rfl rfl) ?_
    refine u_go (r_mem (ckc_at dw4 9 rfl) rfl rfl (fun _ => rfl) rfl (m_last hf)) ?_
    refine u_go (r_goto (t := 29) (ckc_at dw4 10 rfl) (by decide)) ?_
    refine u_go (r_op (ckc_at dw4 20 rfl) rfl (o_const _)) ?_
    exact u_ret (ckc_at dw4 21 rfl) rfl hq
  · change (E, z) ∈ [("java/lang/IllegalArgumentException", 1), ("java/util/NoSuchElementException", 2), ("java/lang/IndexOutOfBoundsException", 3)] at hm
    rcases List.mem_cons.mp hm with hm | hm
    · cases hm
      refine Or.inr ⟨_, 19, rfl, ⟨17, by decide +kernel, Or.inr ⟨6, ckc_at dw4 11 rfl, by decide, rfl⟩⟩, ?_⟩
      refine u_go (r_op (ckc_at dw4 12 rfl) rfl (o_const _)) ?_
      exact u_ret (ckc_at dw4 13 rfl) rfl hq
    rcases List.mem_cons.mp hm with hm | hm
    · cases hm
      refine Or.inr ⟨_, 23, rfl, ⟨21, by decide +kernel, Or.inr ⟨6, ckc_at dw4 14 rfl, by decide, rfl⟩⟩, ?_⟩
      refine u_go (r_op (ckc_at dw4 15 rfl) rfl (o_const _)) ?_
      exact u_ret (ckc_at dw4 16 rfl) rfl hq
    rcases List.mem_cons.mp hm with hm | hm
    · cases hm
      refine Or.inr ⟨_, 27, rfl, ⟨25, by decide +kernel, Or.inr ⟨6, ckc_at dw4 17 rfl, by decide, rfl⟩⟩, ?_⟩
      refine u_go (r_op (ckc_at dw4 18 rfl) rfl (o_const _)) ?_
      exact u_ret (ckc_at dw4 19 rfl) rfl hq
    cases hm
def tw5 : List (Nat × Instr × Nat) := [(0, .aload_n 3, 1), (1, .iconst 0, 1), (2, .aload_n 0, 1), (3, .iload_n 1, 1), (4, .iload_n 2, 1), (5, .invokevirtual 35, 3), (8, .i2l, 1), (9, .lastore, 1), (10, .goto (7), 3), (13, .astore 4, 2), (15, .iconst 1, 1), (16, .ireturn, 1), (17, .iconst 0, 1), (18, .ireturn, 1)]
set_option maxRecDepth 100000 in
theorem dw5 : q_ckc (q_wm 5).1.2.2.1 tw5 = true := by decide +kernel
theorem W_group {d : Nat} {h : qH} {x1 x2 : Int} {Q : Option Value → qH → Prop} (hob : ∃ vs, h.1 0 = some (.inr (10, vs))) (x : ∃ (N : Nat) (o : qO) (h' : qH), (∀ env, EL env [some (.ref 0), some (iv x1), some (iv x2), none] → q_run N d (q_ms n_P_group) 0 env [] h = some (o, h')) ∧ ((∃ a f, o = .inl (some (iv a)) ∧ h'.1 159 = some (.inl (2, 1, f)) ∧ Q (some (iv 0)) (qup h' 159 (.inl (2, 1, updV f 0 (.long ((fun a => (Int32.ofInt a).toInt64) a)))))) ∨ (∃ (E : String) (z : Int), (E, z) ∈ wtb 5 ∧ o = .inr E ∧ Q (some (iv z)) h'))) : qU d (q_wm 5) 0 [some (.ref 0), some (iv x1), some (iv x2), some (.ref 159), none] [] h Q := by
  obtain ⟨N, o, h', hr, hx⟩ := x
  refine u_go (r_ldk (ok := q_isA) (n := 3) (ckc_at dw5 0 rfl) rfl rfl (fun _ => rfl) rfl rfl) ?_
  refine u_go (r_op (ckc_at dw5 1 rfl) rfl (o_const _)) ?_
  refine u_go (r_ldk (ok := q_isA) (n := 0) (ckc_at dw5 2 rfl) rfl rfl (fun _ => rfl) rfl rfl) ?_
  refine u_go (r_ldk (ok := q_isI) (n := 1) (ckc_at dw5 3 rfl) rfl rfl (fun _ => rfl) rfl rfl) ?_
  refine u_go (r_ldk (ok := q_isI) (n := 2) (ckc_at dw5 4 rfl) rfl rfl (fun _ => rfl) rfl rfl) ?_
  refine u_call (as := [iv x1, iv x2]) (r := [iv 0, .ref 159]) (n := 1) (ckc_at dw5 5 rfl) rfl (by decide +kernel) vk_P_group rfl nl_P_group rfl rfl rfl rfl hob ⟨N, o, h', hr, ?_⟩
  rcases hx with ⟨a, f, rfl, hf, hq⟩ | ⟨E, z, hm, rfl, hq⟩
  · refine Or.inl ⟨_, rfl, ?_⟩
    refine u_go (r_op (ckc_at dw5 6 rfl) rfl rfl) ?_
    refine u_go (r_mem (ckc_at dw5 7 rfl) rfl rfl (fun _ => rfl) rfl (m_last hf)) ?_
    refine u_go (r_goto (t := 17) (ckc_at dw5 8 rfl) (by decide)) ?_
    refine u_go (r_op (ckc_at dw5 12 rfl) rfl (o_const _)) ?_
    exact u_ret (ckc_at dw5 13 rfl) rfl hq
  · change (E, z) ∈ [("java/lang/IllegalArgumentException", 1)] at hm
    rcases List.mem_cons.mp hm with hm | hm
    · cases hm
      refine Or.inr ⟨_, 15, rfl, ⟨13, by decide +kernel, Or.inr ⟨4, ckc_at dw5 9 rfl, by decide, rfl⟩⟩, ?_⟩
      refine u_go (r_op (ckc_at dw5 10 rfl) rfl (o_const _)) ?_
      exact u_ret (ckc_at dw5 11 rfl) rfl hq
    cases hm
def tw6 : List (Nat × Instr × Nat) := [(0, .aload_n 3, 1), (1, .iconst 0, 1), (2, .aload_n 0, 1), (3, .iload_n 1, 1), (4, .iload_n 2, 1), (5, .invokevirtual 39, 3), (8, .i2l, 1), (9, .lastore, 1), (10, .goto (15), 3), (13, .astore 4, 2), (15, .iconst 1, 1), (16, .ireturn, 1), (17, .astore 4, 2), (19, .iconst 2, 1), (20, .ireturn, 1), (21, .astore 4, 2), (23, .iconst 3, 1), (24, .ireturn, 1), (25, .iconst 0, 1), (26, .ireturn, 1)]
set_option maxRecDepth 100000 in
theorem dw6 : q_ckc (q_wm 6).1.2.2.1 tw6 = true := by decide +kernel
theorem W_find {d : Nat} {h : qH} {x1 x2 : Int} {Q : Option Value → qH → Prop} (hob : ∃ vs, h.1 0 = some (.inr (10, vs))) (x : ∃ (N : Nat) (o : qO) (h' : qH), (∀ env, EL env [some (.ref 0), some (iv x1), some (iv x2), none, none, none, none] → q_run N d (q_ms n_P_find) 0 env [] h = some (o, h')) ∧ ((∃ a f, o = .inl (some (iv a)) ∧ h'.1 159 = some (.inl (2, 1, f)) ∧ Q (some (iv 0)) (qup h' 159 (.inl (2, 1, updV f 0 (.long ((fun a => (Int32.ofInt a).toInt64) a)))))) ∨ (∃ (E : String) (z : Int), (E, z) ∈ wtb 6 ∧ o = .inr E ∧ Q (some (iv z)) h'))) : qU d (q_wm 6) 0 [some (.ref 0), some (iv x1), some (iv x2), some (.ref 159), none] [] h Q := by
  obtain ⟨N, o, h', hr, hx⟩ := x
  refine u_go (r_ldk (ok := q_isA) (n := 3) (ckc_at dw6 0 rfl) rfl rfl (fun _ => rfl) rfl rfl) ?_
  refine u_go (r_op (ckc_at dw6 1 rfl) rfl (o_const _)) ?_
  refine u_go (r_ldk (ok := q_isA) (n := 0) (ckc_at dw6 2 rfl) rfl rfl (fun _ => rfl) rfl rfl) ?_
  refine u_go (r_ldk (ok := q_isI) (n := 1) (ckc_at dw6 3 rfl) rfl rfl (fun _ => rfl) rfl rfl) ?_
  refine u_go (r_ldk (ok := q_isI) (n := 2) (ckc_at dw6 4 rfl) rfl rfl (fun _ => rfl) rfl rfl) ?_
  refine u_call (as := [iv x1, iv x2]) (r := [iv 0, .ref 159]) (n := 4) (ckc_at dw6 5 rfl) rfl (by decide +kernel) vk_P_find rfl nl_P_find rfl rfl rfl rfl hob ⟨N, o, h', hr, ?_⟩
  rcases hx with ⟨a, f, rfl, hf, hq⟩ | ⟨E, z, hm, rfl, hq⟩
  · refine Or.inl ⟨_, rfl, ?_⟩
    refine u_go (r_op (ckc_at dw6 6 rfl) rfl rfl) ?_
    refine u_go (r_mem (ckc_at dw6 7 rfl) rfl rfl (fun _ => rfl) rfl (m_last hf)) ?_
    refine u_go (r_goto (t := 25) (ckc_at dw6 8 rfl) (by decide)) ?_
    refine u_go (r_op (ckc_at dw6 18 rfl) rfl (o_const _)) ?_
    exact u_ret (ckc_at dw6 19 rfl) rfl hq
  · change (E, z) ∈ [("java/lang/IllegalArgumentException", 1), ("java/util/NoSuchElementException", 2), ("java/lang/IndexOutOfBoundsException", 3)] at hm
    rcases List.mem_cons.mp hm with hm | hm
    · cases hm
      refine Or.inr ⟨_, 15, rfl, ⟨13, by decide +kernel, Or.inr ⟨4, ckc_at dw6 9 rfl, by decide, rfl⟩⟩, ?_⟩
      refine u_go (r_op (ckc_at dw6 10 rfl) rfl (o_const _)) ?_
      exact u_ret (ckc_at dw6 11 rfl) rfl hq
    rcases List.mem_cons.mp hm with hm | hm
    · cases hm
      refine Or.inr ⟨_, 19, rfl, ⟨17, by decide +kernel, Or.inr ⟨4, ckc_at dw6 12 rfl, by decide, rfl⟩⟩, ?_⟩
      refine u_go (r_op (ckc_at dw6 13 rfl) rfl (o_const _)) ?_
      exact u_ret (ckc_at dw6 14 rfl) rfl hq
    rcases List.mem_cons.mp hm with hm | hm
    · cases hm
      refine Or.inr ⟨_, 23, rfl, ⟨21, by decide +kernel, Or.inr ⟨4, ckc_at dw6 15 rfl, by decide, rfl⟩⟩, ?_⟩
      refine u_go (r_op (ckc_at dw6 16 rfl) rfl (o_const _)) ?_
      exact u_ret (ckc_at dw6 17 rfl) rfl hq
    cases hm
def tw7 : List (Nat × Instr × Nat) := [(0, .aload_n 3, 1), (1, .iconst 0, 1), (2, .aload_n 0, 1), (3, .iload_n 1, 1), (4, .iload_n 2, 1), (5, .invokevirtual 42, 3), (8, .i2l, 1), (9, .lastore, 1), (10, .goto (11), 3), (13, .astore 4, 2), (15, .iconst 1, 1), (16, .ireturn, 1), (17, .astore 4, 2), (19, .iconst 2, 1), (20, .ireturn, 1), (21, .iconst 0, 1), (22, .ireturn, 1)]
set_option maxRecDepth 100000 in
theorem dw7 : q_ckc (q_wm 7).1.2.2.1 tw7 = true := by decide +kernel
theorem W_found {d : Nat} {h : qH} {x1 x2 : Int} {Q : Option Value → qH → Prop} (hob : ∃ vs, h.1 0 = some (.inr (10, vs))) (x : ∃ (N : Nat) (o : qO) (h' : qH), (∀ env, EL env [some (.ref 0), some (iv x1), some (iv x2)] → q_run N d (q_ms n_P_found) 0 env [] h = some (o, h')) ∧ ((∃ a f, o = .inl (some (iv a)) ∧ h'.1 159 = some (.inl (2, 1, f)) ∧ Q (some (iv 0)) (qup h' 159 (.inl (2, 1, updV f 0 (.long ((fun a => (Int32.ofInt a).toInt64) a)))))) ∨ (∃ (E : String) (z : Int), (E, z) ∈ wtb 7 ∧ o = .inr E ∧ Q (some (iv z)) h'))) : qU d (q_wm 7) 0 [some (.ref 0), some (iv x1), some (iv x2), some (.ref 159), none] [] h Q := by
  obtain ⟨N, o, h', hr, hx⟩ := x
  refine u_go (r_ldk (ok := q_isA) (n := 3) (ckc_at dw7 0 rfl) rfl rfl (fun _ => rfl) rfl rfl) ?_
  refine u_go (r_op (ckc_at dw7 1 rfl) rfl (o_const _)) ?_
  refine u_go (r_ldk (ok := q_isA) (n := 0) (ckc_at dw7 2 rfl) rfl rfl (fun _ => rfl) rfl rfl) ?_
  refine u_go (r_ldk (ok := q_isI) (n := 1) (ckc_at dw7 3 rfl) rfl rfl (fun _ => rfl) rfl rfl) ?_
  refine u_go (r_ldk (ok := q_isI) (n := 2) (ckc_at dw7 4 rfl) rfl rfl (fun _ => rfl) rfl rfl) ?_
  refine u_call (as := [iv x1, iv x2]) (r := [iv 0, .ref 159]) (n := 0) (ckc_at dw7 5 rfl) rfl (by decide +kernel) vk_P_found rfl nl_P_found rfl rfl rfl rfl hob ⟨N, o, h', hr, ?_⟩
  rcases hx with ⟨a, f, rfl, hf, hq⟩ | ⟨E, z, hm, rfl, hq⟩
  · refine Or.inl ⟨_, rfl, ?_⟩
    refine u_go (r_op (ckc_at dw7 6 rfl) rfl rfl) ?_
    refine u_go (r_mem (ckc_at dw7 7 rfl) rfl rfl (fun _ => rfl) rfl (m_last hf)) ?_
    refine u_go (r_goto (t := 21) (ckc_at dw7 8 rfl) (by decide)) ?_
    refine u_go (r_op (ckc_at dw7 15 rfl) rfl (o_const _)) ?_
    exact u_ret (ckc_at dw7 16 rfl) rfl hq
  · change (E, z) ∈ [("java/lang/IllegalArgumentException", 1), ("java/lang/IndexOutOfBoundsException", 2)] at hm
    rcases List.mem_cons.mp hm with hm | hm
    · cases hm
      refine Or.inr ⟨_, 15, rfl, ⟨13, by decide +kernel, Or.inr ⟨4, ckc_at dw7 9 rfl, by decide, rfl⟩⟩, ?_⟩
      refine u_go (r_op (ckc_at dw7 10 rfl) rfl (o_const _)) ?_
      exact u_ret (ckc_at dw7 11 rfl) rfl hq
    rcases List.mem_cons.mp hm with hm | hm
    · cases hm
      refine Or.inr ⟨_, 19, rfl, ⟨17, by decide +kernel, Or.inr ⟨4, ckc_at dw7 12 rfl, by decide, rfl⟩⟩, ?_⟩
      refine u_go (r_op (ckc_at dw7 13 rfl) rfl (o_const _)) ?_
      exact u_ret (ckc_at dw7 14 rfl) rfl hq
    cases hm
def tw8 : List (Nat × Instr × Nat) := [(0, .aload_n 3, 1), (1, .iconst 0, 1), (2, .aload_n 0, 1), (3, .iload_n 1, 1), (4, .iload_n 2, 1), (5, .invokevirtual 45, 3), (8, .i2l, 1), (9, .lastore, 1), (10, .goto (23), 3), (13, .astore 4, 2), (15, .iconst 1, 1), (16, .ireturn, 1), (17, .astore 4, 2), (19, .iconst 2, 1), (20, .ireturn, 1), (21, .astore 4, 2), (23, .iconst 3, 1), (24, .ireturn, 1), (25, .astore 4, 2), (27, .iconst 4, 1), (28, .ireturn, 1), (29, .astore 4, 2), (31, .iconst 5, 1), (32, .ireturn, 1), (33, .iconst 0, 1), (34, .ireturn, 1)]
set_option maxRecDepth 100000 in
theorem dw8 : q_ckc (q_wm 8).1.2.2.1 tw8 = true := by decide +kernel
theorem W_replace {d : Nat} {h : qH} {x1 x2 : Int} {Q : Option Value → qH → Prop} (hob : ∃ vs, h.1 0 = some (.inr (10, vs))) (x : ∃ (N : Nat) (o : qO) (h' : qH), (∀ env, EL env [some (.ref 0), some (iv x1), some (iv x2), none, none, none] → q_run N d (q_ms n_P_replace) 0 env [] h = some (o, h')) ∧ ((∃ a f, o = .inl (some (iv a)) ∧ h'.1 159 = some (.inl (2, 1, f)) ∧ Q (some (iv 0)) (qup h' 159 (.inl (2, 1, updV f 0 (.long ((fun a => (Int32.ofInt a).toInt64) a)))))) ∨ (∃ (E : String) (z : Int), (E, z) ∈ wtb 8 ∧ o = .inr E ∧ Q (some (iv z)) h'))) : qU d (q_wm 8) 0 [some (.ref 0), some (iv x1), some (iv x2), some (.ref 159), none] [] h Q := by
  obtain ⟨N, o, h', hr, hx⟩ := x
  refine u_go (r_ldk (ok := q_isA) (n := 3) (ckc_at dw8 0 rfl) rfl rfl (fun _ => rfl) rfl rfl) ?_
  refine u_go (r_op (ckc_at dw8 1 rfl) rfl (o_const _)) ?_
  refine u_go (r_ldk (ok := q_isA) (n := 0) (ckc_at dw8 2 rfl) rfl rfl (fun _ => rfl) rfl rfl) ?_
  refine u_go (r_ldk (ok := q_isI) (n := 1) (ckc_at dw8 3 rfl) rfl rfl (fun _ => rfl) rfl rfl) ?_
  refine u_go (r_ldk (ok := q_isI) (n := 2) (ckc_at dw8 4 rfl) rfl rfl (fun _ => rfl) rfl rfl) ?_
  refine u_call (as := [iv x1, iv x2]) (r := [iv 0, .ref 159]) (n := 3) (ckc_at dw8 5 rfl) rfl (by decide +kernel) vk_P_replace rfl nl_P_replace rfl rfl rfl rfl hob ⟨N, o, h', hr, ?_⟩
  rcases hx with ⟨a, f, rfl, hf, hq⟩ | ⟨E, z, hm, rfl, hq⟩
  · refine Or.inl ⟨_, rfl, ?_⟩
    refine u_go (r_op (ckc_at dw8 6 rfl) rfl rfl) ?_
    refine u_go (r_mem (ckc_at dw8 7 rfl) rfl rfl (fun _ => rfl) rfl (m_last hf)) ?_
    refine u_go (r_goto (t := 33) (ckc_at dw8 8 rfl) (by decide)) ?_
    refine u_go (r_op (ckc_at dw8 24 rfl) rfl (o_const _)) ?_
    exact u_ret (ckc_at dw8 25 rfl) rfl hq
  · change (E, z) ∈ [("java/lang/IllegalArgumentException", 1), ("java/util/NoSuchElementException", 2), ("java/lang/IllegalStateException", 3), ("java/lang/UnsupportedOperationException", 4), ("java/lang/IndexOutOfBoundsException", 5)] at hm
    rcases List.mem_cons.mp hm with hm | hm
    · cases hm
      refine Or.inr ⟨_, 15, rfl, ⟨13, by decide +kernel, Or.inr ⟨4, ckc_at dw8 9 rfl, by decide, rfl⟩⟩, ?_⟩
      refine u_go (r_op (ckc_at dw8 10 rfl) rfl (o_const _)) ?_
      exact u_ret (ckc_at dw8 11 rfl) rfl hq
    rcases List.mem_cons.mp hm with hm | hm
    · cases hm
      refine Or.inr ⟨_, 19, rfl, ⟨17, by decide +kernel, Or.inr ⟨4, ckc_at dw8 12 rfl, by decide, rfl⟩⟩, ?_⟩
      refine u_go (r_op (ckc_at dw8 13 rfl) rfl (o_const _)) ?_
      exact u_ret (ckc_at dw8 14 rfl) rfl hq
    rcases List.mem_cons.mp hm with hm | hm
    · cases hm
      refine Or.inr ⟨_, 23, rfl, ⟨21, by decide +kernel, Or.inr ⟨4, ckc_at dw8 15 rfl, by decide, rfl⟩⟩, ?_⟩
      refine u_go (r_op (ckc_at dw8 16 rfl) rfl (o_const _)) ?_
      exact u_ret (ckc_at dw8 17 rfl) rfl hq
    rcases List.mem_cons.mp hm with hm | hm
    · cases hm
      refine Or.inr ⟨_, 27, rfl, ⟨25, by decide +kernel, Or.inr ⟨4, ckc_at dw8 18 rfl, by decide, rfl⟩⟩, ?_⟩
      refine u_go (r_op (ckc_at dw8 19 rfl) rfl (o_const _)) ?_
      exact u_ret (ckc_at dw8 20 rfl) rfl hq
    rcases List.mem_cons.mp hm with hm | hm
    · cases hm
      refine Or.inr ⟨_, 31, rfl, ⟨29, by decide +kernel, Or.inr ⟨4, ckc_at dw8 21 rfl, by decide, rfl⟩⟩, ?_⟩
      refine u_go (r_op (ckc_at dw8 22 rfl) rfl (o_const _)) ?_
      exact u_ret (ckc_at dw8 23 rfl) rfl hq
    cases hm
def tw9 : List (Nat × Instr × Nat) := [(0, .aload 4, 2), (2, .iconst 0, 1), (3, .aload_n 0, 1), (4, .iload_n 1, 1), (5, .iload_n 2, 1), (6, .iload_n 3, 1), (7, .invokevirtual 50, 3), (10, .i2l, 1), (11, .lastore, 1), (12, .goto (15), 3), (15, .astore 5, 2), (17, .iconst 1, 1), (18, .ireturn, 1), (19, .astore 5, 2), (21, .iconst 2, 1), (22, .ireturn, 1), (23, .astore 5, 2), (25, .iconst 3, 1), (26, .ireturn, 1), (27, .iconst 0, 1), (28, .ireturn, 1)]
set_option maxRecDepth 100000 in
theorem dw9 : q_ckc (q_wm 9).1.2.2.1 tw9 = true := by decide +kernel
theorem W_span {d : Nat} {h : qH} {x1 x2 x3 : Int} {Q : Option Value → qH → Prop} (hob : ∃ vs, h.1 0 = some (.inr (10, vs))) (x : ∃ (N : Nat) (o : qO) (h' : qH), (∀ env, EL env [some (.ref 0), some (iv x1), some (iv x2), some (iv x3), none, none, none] → q_run N d (q_ms n_P_span) 0 env [] h = some (o, h')) ∧ ((∃ a f, o = .inl (some (iv a)) ∧ h'.1 159 = some (.inl (2, 1, f)) ∧ Q (some (iv 0)) (qup h' 159 (.inl (2, 1, updV f 0 (.long ((fun a => (Int32.ofInt a).toInt64) a)))))) ∨ (∃ (E : String) (z : Int), (E, z) ∈ wtb 9 ∧ o = .inr E ∧ Q (some (iv z)) h'))) : qU d (q_wm 9) 0 [some (.ref 0), some (iv x1), some (iv x2), some (iv x3), some (.ref 159), none] [] h Q := by
  obtain ⟨N, o, h', hr, hx⟩ := x
  refine u_go (r_ldk (ok := q_isA) (n := 4) (ckc_at dw9 0 rfl) rfl rfl (fun _ => rfl) rfl rfl) ?_
  refine u_go (r_op (ckc_at dw9 1 rfl) rfl (o_const _)) ?_
  refine u_go (r_ldk (ok := q_isA) (n := 0) (ckc_at dw9 2 rfl) rfl rfl (fun _ => rfl) rfl rfl) ?_
  refine u_go (r_ldk (ok := q_isI) (n := 1) (ckc_at dw9 3 rfl) rfl rfl (fun _ => rfl) rfl rfl) ?_
  refine u_go (r_ldk (ok := q_isI) (n := 2) (ckc_at dw9 4 rfl) rfl rfl (fun _ => rfl) rfl rfl) ?_
  refine u_go (r_ldk (ok := q_isI) (n := 3) (ckc_at dw9 5 rfl) rfl rfl (fun _ => rfl) rfl rfl) ?_
  refine u_call (as := [iv x1, iv x2, iv x3]) (r := [iv 0, .ref 159]) (n := 3) (ckc_at dw9 6 rfl) rfl (by decide +kernel) vk_P_span rfl nl_P_span rfl rfl rfl rfl hob ⟨N, o, h', hr, ?_⟩
  rcases hx with ⟨a, f, rfl, hf, hq⟩ | ⟨E, z, hm, rfl, hq⟩
  · refine Or.inl ⟨_, rfl, ?_⟩
    refine u_go (r_op (ckc_at dw9 7 rfl) rfl rfl) ?_
    refine u_go (r_mem (ckc_at dw9 8 rfl) rfl rfl (fun _ => rfl) rfl (m_last hf)) ?_
    refine u_go (r_goto (t := 27) (ckc_at dw9 9 rfl) (by decide)) ?_
    refine u_go (r_op (ckc_at dw9 19 rfl) rfl (o_const _)) ?_
    exact u_ret (ckc_at dw9 20 rfl) rfl hq
  · change (E, z) ∈ [("java/lang/IllegalArgumentException", 1), ("java/util/NoSuchElementException", 2), ("java/lang/ClassCastException", 3)] at hm
    rcases List.mem_cons.mp hm with hm | hm
    · cases hm
      refine Or.inr ⟨_, 17, rfl, ⟨15, by decide +kernel, Or.inr ⟨5, ckc_at dw9 10 rfl, by decide, rfl⟩⟩, ?_⟩
      refine u_go (r_op (ckc_at dw9 11 rfl) rfl (o_const _)) ?_
      exact u_ret (ckc_at dw9 12 rfl) rfl hq
    rcases List.mem_cons.mp hm with hm | hm
    · cases hm
      refine Or.inr ⟨_, 21, rfl, ⟨19, by decide +kernel, Or.inr ⟨5, ckc_at dw9 13 rfl, by decide, rfl⟩⟩, ?_⟩
      refine u_go (r_op (ckc_at dw9 14 rfl) rfl (o_const _)) ?_
      exact u_ret (ckc_at dw9 15 rfl) rfl hq
    rcases List.mem_cons.mp hm with hm | hm
    · cases hm
      refine Or.inr ⟨_, 25, rfl, ⟨23, by decide +kernel, Or.inr ⟨5, ckc_at dw9 16 rfl, by decide, rfl⟩⟩, ?_⟩
      refine u_go (r_op (ckc_at dw9 17 rfl) rfl (o_const _)) ?_
      exact u_ret (ckc_at dw9 18 rfl) rfl hq
    cases hm
def tw10 : List (Nat × Instr × Nat) := [(0, .aload_n 3, 1), (1, .iconst 0, 1), (2, .aload_n 0, 1), (3, .iload_n 1, 1), (4, .iload_n 2, 1), (5, .invokevirtual 56, 3), (8, .lastore, 1), (9, .goto (11), 3), (12, .astore 4, 2), (14, .iconst 1, 1), (15, .ireturn, 1), (16, .astore 4, 2), (18, .iconst 2, 1), (19, .ireturn, 1), (20, .iconst 0, 1), (21, .ireturn, 1)]
set_option maxRecDepth 100000 in
theorem dw10 : q_ckc (q_wm 10).1.2.2.1 tw10 = true := by decide +kernel
theorem W_word {d : Nat} {h : qH} {x1 x2 : Int} {Q : Option Value → qH → Prop} (hob : ∃ vs, h.1 0 = some (.inr (10, vs))) (x : ∃ (N : Nat) (o : qO) (h' : qH), (∀ env, EL env [some (.ref 0), some (iv x1), some (iv x2), none, none, none, none] → q_run N d (q_ms n_P_word) 0 env [] h = some (o, h')) ∧ ((∃ a f, o = .inl (some (wv a)) ∧ h'.1 159 = some (.inl (2, 1, f)) ∧ Q (some (iv 0)) (qup h' 159 (.inl (2, 1, updV f 0 (.long ((fun a => Int64.ofInt a) a)))))) ∨ (∃ (E : String) (z : Int), (E, z) ∈ wtb 10 ∧ o = .inr E ∧ Q (some (iv z)) h'))) : qU d (q_wm 10) 0 [some (.ref 0), some (iv x1), some (iv x2), some (.ref 159), none] [] h Q := by
  obtain ⟨N, o, h', hr, hx⟩ := x
  refine u_go (r_ldk (ok := q_isA) (n := 3) (ckc_at dw10 0 rfl) rfl rfl (fun _ => rfl) rfl rfl) ?_
  refine u_go (r_op (ckc_at dw10 1 rfl) rfl (o_const _)) ?_
  refine u_go (r_ldk (ok := q_isA) (n := 0) (ckc_at dw10 2 rfl) rfl rfl (fun _ => rfl) rfl rfl) ?_
  refine u_go (r_ldk (ok := q_isI) (n := 1) (ckc_at dw10 3 rfl) rfl rfl (fun _ => rfl) rfl rfl) ?_
  refine u_go (r_ldk (ok := q_isI) (n := 2) (ckc_at dw10 4 rfl) rfl rfl (fun _ => rfl) rfl rfl) ?_
  refine u_call (as := [iv x1, iv x2]) (r := [iv 0, .ref 159]) (n := 4) (ckc_at dw10 5 rfl) rfl (by decide +kernel) vk_P_word rfl nl_P_word rfl rfl rfl rfl hob ⟨N, o, h', hr, ?_⟩
  rcases hx with ⟨a, f, rfl, hf, hq⟩ | ⟨E, z, hm, rfl, hq⟩
  · refine Or.inl ⟨_, rfl, ?_⟩
    refine u_go (r_mem (ckc_at dw10 6 rfl) rfl rfl (fun _ => rfl) rfl (m_last hf)) ?_
    refine u_go (r_goto (t := 20) (ckc_at dw10 7 rfl) (by decide)) ?_
    refine u_go (r_op (ckc_at dw10 14 rfl) rfl (o_const _)) ?_
    exact u_ret (ckc_at dw10 15 rfl) rfl hq
  · change (E, z) ∈ [("java/lang/IllegalArgumentException", 1), ("java/lang/IndexOutOfBoundsException", 2)] at hm
    rcases List.mem_cons.mp hm with hm | hm
    · cases hm
      refine Or.inr ⟨_, 14, rfl, ⟨12, by decide +kernel, Or.inr ⟨4, ckc_at dw10 8 rfl, by decide, rfl⟩⟩, ?_⟩
      refine u_go (r_op (ckc_at dw10 9 rfl) rfl (o_const _)) ?_
      exact u_ret (ckc_at dw10 10 rfl) rfl hq
    rcases List.mem_cons.mp hm with hm | hm
    · cases hm
      refine Or.inr ⟨_, 18, rfl, ⟨16, by decide +kernel, Or.inr ⟨4, ckc_at dw10 11 rfl, by decide, rfl⟩⟩, ?_⟩
      refine u_go (r_op (ckc_at dw10 12 rfl) rfl (o_const _)) ?_
      exact u_ret (ckc_at dw10 13 rfl) rfl hq
    cases hm
def tw11 : List (Nat × Instr × Nat) := [(0, .aload_n 2, 1), (1, .iconst 0, 1), (2, .aload_n 0, 1), (3, .iload_n 1, 1), (4, .invokevirtual 60, 3), (7, .i2l, 1), (8, .lastore, 1), (9, .goto (6), 3), (12, .astore_n 3, 1), (13, .iconst 1, 1), (14, .ireturn, 1), (15, .iconst 0, 1), (16, .ireturn, 1)]
set_option maxRecDepth 100000 in
theorem dw11 : q_ckc (q_wm 11).1.2.2.1 tw11 = true := by decide +kernel
theorem W_count {d : Nat} {h : qH} {x1 : Int} {Q : Option Value → qH → Prop} (hob : ∃ vs, h.1 0 = some (.inr (10, vs))) (x : ∃ (N : Nat) (o : qO) (h' : qH), (∀ env, EL env [some (.ref 0), some (iv x1)] → q_run N d (q_ms n_P_count) 0 env [] h = some (o, h')) ∧ ((∃ a f, o = .inl (some (iv a)) ∧ h'.1 159 = some (.inl (2, 1, f)) ∧ Q (some (iv 0)) (qup h' 159 (.inl (2, 1, updV f 0 (.long ((fun a => (Int32.ofInt a).toInt64) a)))))) ∨ (∃ (E : String) (z : Int), (E, z) ∈ wtb 11 ∧ o = .inr E ∧ Q (some (iv z)) h'))) : qU d (q_wm 11) 0 [some (.ref 0), some (iv x1), some (.ref 159), none] [] h Q := by
  obtain ⟨N, o, h', hr, hx⟩ := x
  refine u_go (r_ldk (ok := q_isA) (n := 2) (ckc_at dw11 0 rfl) rfl rfl (fun _ => rfl) rfl rfl) ?_
  refine u_go (r_op (ckc_at dw11 1 rfl) rfl (o_const _)) ?_
  refine u_go (r_ldk (ok := q_isA) (n := 0) (ckc_at dw11 2 rfl) rfl rfl (fun _ => rfl) rfl rfl) ?_
  refine u_go (r_ldk (ok := q_isI) (n := 1) (ckc_at dw11 3 rfl) rfl rfl (fun _ => rfl) rfl rfl) ?_
  refine u_call (as := [iv x1]) (r := [iv 0, .ref 159]) (n := 0) (ckc_at dw11 4 rfl) rfl (by decide +kernel) vk_P_count rfl nl_P_count rfl rfl rfl rfl hob ⟨N, o, h', hr, ?_⟩
  rcases hx with ⟨a, f, rfl, hf, hq⟩ | ⟨E, z, hm, rfl, hq⟩
  · refine Or.inl ⟨_, rfl, ?_⟩
    refine u_go (r_op (ckc_at dw11 5 rfl) rfl rfl) ?_
    refine u_go (r_mem (ckc_at dw11 6 rfl) rfl rfl (fun _ => rfl) rfl (m_last hf)) ?_
    refine u_go (r_goto (t := 15) (ckc_at dw11 7 rfl) (by decide)) ?_
    refine u_go (r_op (ckc_at dw11 11 rfl) rfl (o_const _)) ?_
    exact u_ret (ckc_at dw11 12 rfl) rfl hq
  · change (E, z) ∈ [("java/lang/IllegalArgumentException", 1)] at hm
    rcases List.mem_cons.mp hm with hm | hm
    · cases hm
      refine Or.inr ⟨_, 13, rfl, ⟨12, by decide +kernel, Or.inl ⟨3, ckc_at dw11 8 rfl, by decide, rfl⟩⟩, ?_⟩
      refine u_go (r_op (ckc_at dw11 9 rfl) rfl (o_const _)) ?_
      exact u_ret (ckc_at dw11 10 rfl) rfl hq
    cases hm
