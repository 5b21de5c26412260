/-! PatternTrier$Program.holds(II)Z -/
def t_Pr_holds : List (Nat × Instr × Nat) := [(0, .aload_n 0, 1), (1, .getfield 33, 3), (4, .iload_n 1, 1), (5, .iload_n 2, 1), (6, .invokevirtual 79, 3), (9, .ireturn, 1)]
set_option maxRecDepth 100000 in
theorem dt_Pr_holds : q_ck n_Pr_holds t_Pr_holds = true := by decide +kernel
def c_Pr_holds_0 (h1 : qH) (d : Nat) (a0 : Nat) (x1 : Int) (x2 : Int) (B : qB) (Q : qO → qB → Prop) : Prop := hoO x1 x2 ∧ Q (.inl (some (iv (bi (hoC B (a0 + 7) x1 x2))))) B
theorem c_Pr_holds_0_ok {h1 : qH} {d : Nat} {a0 : Nat} {x1 : Int} {x2 : Int} {B : qB} {Q : qO → qB → Prop} (hd : 2 ≤ d) (hS : SH B) (ha0 : ob 5 a0) (w : c_Pr_holds_0 h1 d a0 x1 x2 B Q) : qY h1 (d + 1) n_Pr_holds 0 [some (.ref a0), some (iv x1), some (iv x2)] [] B Q := by
  unfold c_Pr_holds_0 at w
  obtain ⟨p1, w⟩ := w
  refine y_ldk (ok := q_isA) (n := 0) (ck_at dt_Pr_holds 0 rfl) rfl rfl (fun _ => rfl) rfl rfl ?_
  refine y_getF (r := a0 + 7) (K := 5) (j := 6) (a := a0) (ck_at dt_Pr_holds 1 rfl) own_Pr_holds (cf_at 15 rfl) rfl rfl ⟨(SH.o hS ha0), ?_⟩
  refine y_ldk (ok := q_isI) (n := 1) (ck_at dt_Pr_holds 2 rfl) rfl rfl (fun _ => rfl) rfl rfl ?_
  refine y_ldk (ok := q_isI) (n := 2) (ck_at dt_Pr_holds 3 rfl) rfl rfl (fun _ => rfl) rfl rfl ?_
  refine y_virtP (k' := n_Se_holds) (n := 0) (as := [iv x1, iv x2]) (r := []) (ck_at dt_Pr_holds 4 rfl) own_Pr_holds (cm_at 38 rfl) vk_Se_holds rfl nl_Se_holds rfl rfl rfl rfl (SH.o hS (ob57 ha0)) (Y_Se_holds (by omega) hS (ob57 ha0) p1 ⟨rfl, rfl⟩) ?_
  exact y_retZ (ck_at dt_Pr_holds 5 rfl) rt_Pr_holds (bi_01 _) w
/-! PatternTrier$Reader.bracketKind()I -/
def t_Re_bracketKind : List (Nat × Instr × Nat) := [(0, .aload_n 0, 1), (1, .iconst 1, 1), (2, .invokevirtual 47, 3), (5, .bipush 63, 2), (7, .if_icmp .eq 6, 3), (10, .bipush 9, 2), (12, .ireturn, 1), (13, .aload_n 0, 1), (14, .iconst 2, 1), (15, .invokevirtual 47, 3), (18, .lookupswitch 43 #[(33, 40), (58, 34), (61, 37)], 34), (52, .bipush 10, 2), (54, .ireturn, 1), (55, .bipush 7, 2), (57, .ireturn, 1), (58, .bipush 8, 2), (60, .ireturn, 1), (61, .iconst (-1), 1), (62, .ireturn, 1)]
set_option maxRecDepth 100000 in
theorem dt_Re_bracketKind : q_ck n_Re_bracketKind t_Re_bracketKind = true := by decide +kernel
def c_Re_bracketKind_0 (h1 : qH) (d : Nat) (B : qB) (Q : qO → qB → Prop) : Prop := RI B ∧ R32 (sgC B (B 100 2 + 1)) ∧ (sgC B (B 100 2 + 1) = 63 → R32 (sgC B (B 100 2 + 2)) ∧ (sgC B (B 100 2 + 2) = 33 → Q (.inl (some (iv 8))) B) ∧ (sgC B (B 100 2 + 2) = 58 → Q (.inl (some (iv 10))) B) ∧ (sgC B (B 100 2 + 2) = 61 → Q (.inl (some (iv 7))) B) ∧ (¬ sgC B (B 100 2 + 2) = 33 → ¬ sgC B (B 100 2 + 2) = 58 → ¬ sgC B (B 100 2 + 2) = 61 → Q (.inl (some (iv (-1)))) B)) ∧ (¬ sgC B (B 100 2 + 1) = 63 → Q (.inl (some (iv 9))) B)
theorem c_Re_bracketKind_0_ok {h1 : qH} {d : Nat} {B : qB} {Q : qO → qB → Prop} (hd : 2 ≤ d) (hS : SH B) (w : c_Re_bracketKind_0 h1 d B Q) : qY h1 (d + 1) n_Re_bracketKind 0 [some (.ref 100)] [] B Q := by
  unfold c_Re_bracketKind_0 at w
  obtain ⟨p1, p2, w⟩ := w
  refine y_ldk (ok := q_isA) (n := 0) (ck_at dt_Re_bracketKind 0 rfl) rfl rfl (fun _ => rfl) rfl rfl ?_
  refine y_op (ck_at dt_Re_bracketKind 1 rfl) rfl (o_const _) ?_
  refine y_virtP (k' := n_Re_see) (n := 2) (as := [iv 1]) (r := []) (ck_at dt_Re_bracketKind 2 rfl) own_Re_bracketKind (cm_at 41 rfl) vk_Re_see rfl nl_Re_see rfl rfl rfl rfl (SH.o hS ⟨by decide, by decide, by decide⟩) (Y_Re_see (by omega) hS p1 (by decide) (by decide) ⟨rfl, rfl⟩) ?_
  refine y_op (ck_at dt_Re_bracketKind 3 rfl) rfl (o_bipush _ (by decide)) ?_
  refine y_icmp (t := 13) (ck_at dt_Re_bracketKind 4 rfl) rfl p2 ⟨by decide, by decide⟩ ?_ ?_
  · intro q; have w := w.1 q
    obtain ⟨p3, w⟩ := w
    refine y_ldk (ok := q_isA) (n := 0) (ck_at dt_Re_bracketKind 7 rfl) rfl rfl (fun _ => rfl) rfl rfl ?_
    refine y_op (ck_at dt_Re_bracketKind 8 rfl) rfl (o_const _) ?_
    refine y_virtP (k' := n_Re_see) (n := 2) (as := [iv 2]) (r := []) (ck_at dt_Re_bracketKind 9 rfl) own_Re_bracketKind (cm_at 41 rfl) vk_Re_see rfl nl_Re_see rfl rfl rfl rfl (SH.o hS ⟨by decide, by decide, by decide⟩) (Y_Re_see (by omega) hS p1 (by decide) (by decide) ⟨rfl, rfl⟩) ?_
    have hx := p3
    by_cases q0 : sgC B (B 100 2 + 2) = 33
    · have w := w.1 q0
      refine y_swc (c := 33) (t := 58) (ck_at dt_Re_bracketKind 10 rfl) rfl (fun _ => rfl) (fun _ _ => rfl) q0 rfl ?_
      refine y_op (ck_at dt_Re_bracketKind 15 rfl) rfl (o_bipush _ (by decide)) ?_
      exact y_retI (ck_at dt_Re_bracketKind 16 rfl) rt_Re_bracketKind w
    by_cases q1 : sgC B (B 100 2 + 2) = 58
    · have w := w.2.1 q1
      refine y_swc (c := 58) (t := 52) (ck_at dt_Re_bracketKind 10 rfl) rfl (fun _ => rfl) (fun _ _ => rfl) q1 rfl ?_
      refine y_op (ck_at dt_Re_bracketKind 11 rfl) rfl (o_bipush _ (by decide)) ?_
      exact y_retI (ck_at dt_Re_bracketKind 12 rfl) rt_Re_bracketKind w
    by_cases q2 : sgC B (B 100 2 + 2) = 61
    · have w := w.2.2.1 q2
      refine y_swc (c := 61) (t := 55) (ck_at dt_Re_bracketKind 10 rfl) rfl (fun _ => rfl) (fun _ _ => rfl) q2 rfl ?_
      refine y_op (ck_at dt_Re_bracketKind 13 rfl) rfl (o_bipush _ (by decide)) ?_
      exact y_retI (ck_at dt_Re_bracketKind 14 rfl) rt_Re_bracketKind w
    have w := w.2.2.2 q0 q1 q2
    refine y_lswd (t := 61) (ck_at dt_Re_bracketKind 10 rfl) hx (by decide) (fun e he => ?_) rfl ?_
    · simp only [List.mem_cons, List.not_mem_nil, or_false] at he
      rcases he with rfl | rfl | rfl <;> assumption
    refine y_op (ck_at dt_Re_bracketKind 17 rfl) rfl (o_const _) ?_
    exact y_retI (ck_at dt_Re_bracketKind 18 rfl) rt_Re_bracketKind w
  · intro q; have w := w.2 q
    refine y_op (ck_at dt_Re_bracketKind 5 rfl) rfl (o_bipush _ (by decide)) ?_
    exact y_retI (ck_at dt_Re_bracketKind 6 rfl) rt_Re_bracketKind w
/-! PatternTrier$Tree.addRounds(IIII)I -/
def t_Tr_addRounds : List (Nat × Instr × Nat) := [(0, .aload_n 0, 1), (1, .iload_n 1, 1), (2, .invokevirtual 57, 3), (5, .istore 5, 2), (7, .iload_n 2, 1), (8, .iload 5, 2), (10, .imul, 1), (11, .istore 6, 2), (13, .iload 6, 2), (15, .iload_n 3, 1), (16, .iconst (-1), 1), (17, .if_icmp .ne 10, 3), (20, .iload 5, 2), (22, .iconst 1, 1), (23, .iadd, 1), (24, .goto 11, 3), (27, .iload_n 3, 1), (28, .iload_n 2, 1), (29, .isub, 1), (30, .iload 5, 2), (32, .iconst 1, 1), (33, .iadd, 1), (34, .imul, 1), (35, .iadd, 1), (36, .istore 6, 2), (38, .aload_n 0, 1), (39, .bipush 11, 2), (41, .iload 4, 2), (43, .iload_n 1, 1), (44, .iload 4, 2), (46, .iconst 2, 1), (47, .if_icmp .ne 10, 3), (50, .iload 6, 2), (52, .iconst 1, 1), (53, .iadd, 1), (54, .goto 5, 3), (57, .iload 6, 2), (59, .invokevirtual 61, 3), (62, .istore 7, 2), (64, .aload_n 0, 1), (65, .getfield 24, 3), (68, .iload 7, 2), (70, .iload_n 2, 1), (71, .invokestatic 47, 3), (74, .aload_n 0, 1), (75, .getfield 27, 3), (78, .iload 7, 2), (80, .iload_n 3, 1), (81, .invokestatic 47, 3), (84, .iload 7, 2), (86, .ireturn, 1)]
set_option maxRecDepth 100000 in
theorem dt_Tr_addRounds : q_ck n_Tr_addRounds t_Tr_addRounds = true := by decide +kernel
def c_Tr_addRounds_59 (h1 : qH) (d : Nat) (x2 : Int) (x3 : Int) (s1 : Int) (s2 : Int) (s3 : Int) (s4 : Int) (B : qB) (Q : qO → qB → Prop) : Prop := 1 ≤ B 90 8 ∧ B 90 8 ≤ 408 ∧ R32 s4 ∧ 0 ≤ (adV B) ∧ (adV B) < 408 ∧ Q (.inl (some (iv (adV B)))) (u2 (u2 (adT B s1 s2 s3 s4) 95 (adV B) x2) 96 (adV B) x3)
theorem c_Tr_addRounds_59_ok {h1 : qH} {d : Nat} {x2 : Int} {x3 : Int} {s1 : Int} {s2 : Int} {s3 : Int} {s4 : Int} {B : qB} {Q : qO → qB → Prop} (hd : 2 ≤ d) (hS : SH B) (w : c_Tr_addRounds_59 h1 d x2 x3 s1 s2 s3 s4 B Q) : qY h1 (d + 1) n_Tr_addRounds 59 [some (.ref 90), none, some (iv x2), some (iv x3), none, none, none, none] [iv s4, iv s3, iv s2, iv s1, .ref 90] B Q := by
  unfold c_Tr_addRounds_59 at w
  obtain ⟨p1, p2, p3, p5, p6, w⟩ := w
  refine y_virtP (k' := n_Tr_add) (n := 1) (as := [iv s1, iv s2, iv s3, iv s4]) (r := []) (ck_at dt_Tr_addRounds 37 rfl) own_Tr_addRounds (cm_at 79 rfl) vk_Tr_add rfl nl_Tr_add rfl rfl rfl rfl (SH.o hS ⟨by decide, by decide, by decide⟩) (Y_Tr_add (by omega) hS p1 p2 p3 ⟨rfl, rfl⟩) ?_
  have hS4 : SH (adT B s1 s2 s3 s4) := S_Tr_add hS p1 p2 p3
  refine y_st1 (ok := q_isI) (n := 7) (L' := [some (.ref 90), none, some (iv x2), some (iv x3), none, none, none, some (iv (adV B))]) (ck_at dt_Tr_addRounds 38 rfl) rfl (fun _ => rfl) (fun _ _ => rfl) rfl nl_Tr_addRounds (by decide) trivial rfl ?_
  refine y_ldk (ok := q_isA) (n := 0) (ck_at dt_Tr_addRounds 39 rfl) rfl rfl (fun _ => rfl) rfl rfl ?_
  refine y_getF (r := 95) (K := 8) (j := 4) (a := 90) (ck_at dt_Tr_addRounds 40 rfl) own_Tr_addRounds (cf_at 36 rfl) rfl rfl ⟨(SH.o hS4 ⟨by decide, by decide, by decide⟩), ?_⟩
  refine y_ldk (ok := q_isI) (n := 7) (ck_at dt_Tr_addRounds 41 rfl) rfl rfl (fun _ => rfl) rfl rfl ?_
  refine y_ldk (ok := q_isI) (n := 2) (ck_at dt_Tr_addRounds 42 rfl) rfl rfl (fun _ => rfl) rfl rfl ?_
  refine y_stat3V (k' := n_P_put) (n := 0) (as := [.ref 95, iv (adV B), iv x2]) (r := []) (ck_at dt_Tr_addRounds 43 rfl) own_Tr_addRounds (cm_at 77 rfl) (cs_at 18 rfl) vk_P_put rfl nl_P_put rfl rfl rfl rfl  (Y_P_put (by omega) hS4 (SH.a (t := 1) (a := 95) (n := 408) hS4 ⟨by decide, by decide, by decide, by decide⟩) (by decide) (by decide) p5 p6 ⟨rfl, rfl⟩) ?_
  have hS7 := SH_u2 (b := 95) (x := (adV B)) (z := x2) hS4 p5
  refine y_ldk (ok := q_isA) (n := 0) (ck_at dt_Tr_addRounds 44 rfl) rfl rfl (fun _ => rfl) rfl rfl ?_
  refine y_getF (r := 96) (K := 8) (j := 5) (a := 90) (ck_at dt_Tr_addRounds 45 rfl) own_Tr_addRounds (cf_at 37 rfl) rfl rfl ⟨(SH.o hS7 ⟨by decide, by decide, by decide⟩), ?_⟩
  refine y_ldk (ok := q_isI) (n := 7) (ck_at dt_Tr_addRounds 46 rfl) rfl rfl (fun _ => rfl) rfl rfl ?_
  refine y_ldk (ok := q_isI) (n := 3) (ck_at dt_Tr_addRounds 47 rfl) rfl rfl (fun _ => rfl) rfl rfl ?_
  refine y_stat3V (k' := n_P_put) (n := 0) (as := [.ref 96, iv (adV B), iv x3]) (r := []) (ck_at dt_Tr_addRounds 48 rfl) own_Tr_addRounds (cm_at 77 rfl) (cs_at 18 rfl) vk_P_put rfl nl_P_put rfl rfl rfl rfl  (Y_P_put (by omega) hS7 (SH.a (t := 1) (a := 96) (n := 408) hS7 ⟨by decide, by decide, by decide, by decide⟩) (by decide) (by decide) p5 p6 ⟨rfl, rfl⟩) ?_
  have hS8 := SH_u2 (b := 96) (x := (adV B)) (z := x3) hS7 p5
  refine y_ldk (ok := q_isI) (n := 7) (ck_at dt_Tr_addRounds 49 rfl) rfl rfl (fun _ => rfl) rfl rfl ?_
  exact y_retI (ck_at dt_Tr_addRounds 50 rfl) rt_Tr_addRounds w
def c_Tr_addRounds_35 (h1 : qH) (d : Nat) (x1 : Int) (x2 : Int) (x3 : Int) (x4 : Int) (s0 : Int) (s1 : Int) (B : qB) (Q : qO → qB → Prop) : Prop := R32 x4 ∧ (¬ x4 = 2 → c_Tr_addRounds_59 h1 d x2 x3 11 x4 x1 (s0 + s1) B Q) ∧ (x4 = 2 → c_Tr_addRounds_59 h1 d x2 x3 11 x4 x1 ((s0 + s1) + 1) B Q)
theorem c_Tr_addRounds_35_ok {h1 : qH} {d : Nat} {x1 : Int} {x2 : Int} {x3 : Int} {x4 : Int} {s0 : Int} {s1 : Int} {B : qB} {Q : qO → qB → Prop} (hd : 2 ≤ d) (hS : SH B) (w : c_Tr_addRounds_35 h1 d x1 x2 x3 x4 s0 s1 B Q) : qY h1 (d + 1) n_Tr_addRounds 35 [some (.ref 90), some (iv x1), some (iv x2), some (iv x3), some (iv x4), none, none, none] [iv s1, iv s0] B Q := by
  unfold c_Tr_addRounds_35 at w
  obtain ⟨p1, w⟩ := w
  refine y_op (ck_at dt_Tr_addRounds 23 rfl) rfl o_iadd ?_
  refine y_st1 (ok := q_isI) (n := 6) (L' := [some (.ref 90), some (iv x1), some (iv x2), some (iv x3), some (iv x4), none, some (iv (s0 + s1)), none]) (ck_at dt_Tr_addRounds 24 rfl) rfl (fun _ => rfl) (fun _ _ => rfl) rfl nl_Tr_addRounds (by decide) trivial rfl ?_
  refine y_ldk (ok := q_isA) (n := 0) (ck_at dt_Tr_addRounds 25 rfl) rfl rfl (fun _ => rfl) rfl rfl ?_
  refine y_op (ck_at dt_Tr_addRounds 26 rfl) rfl (o_bipush _ (by decide)) ?_
  refine y_ldk (ok := q_isI) (n := 4) (ck_at dt_Tr_addRounds 27 rfl) rfl rfl (fun _ => rfl) rfl rfl ?_
  refine y_ldk (ok := q_isI) (n := 1) (ck_at dt_Tr_addRounds 28 rfl) rfl rfl (fun _ => rfl) rfl rfl ?_
  refine y_ldk (ok := q_isI) (n := 4) (ck_at dt_Tr_addRounds 29 rfl) rfl rfl (fun _ => rfl) rfl rfl ?_
  refine y_op (ck_at dt_Tr_addRounds 30 rfl) rfl (o_const _) ?_
  refine y_icmp (t := 57) (ck_at dt_Tr_addRounds 31 rfl) rfl p1 ⟨by decide, by decide⟩ ?_ ?_
  · intro q; have w := w.1 q
    refine y_ldk (ok := q_isI) (n := 6) (ck_at dt_Tr_addRounds 36 rfl) rfl rfl (fun _ => rfl) rfl rfl ?_
    exact y_wk (c_Tr_addRounds_59_ok (by omega) hS w) ⟨rfl, ⟨rfl, ⟨rfl, trivial⟩⟩⟩
  · intro q; have w := w.2 q
    refine y_ldk (ok := q_isI) (n := 6) (ck_at dt_Tr_addRounds 32 rfl) rfl rfl (fun _ => rfl) rfl rfl ?_
    refine y_op (ck_at dt_Tr_addRounds 33 rfl) rfl (o_const _) ?_
    refine y_op (ck_at dt_Tr_addRounds 34 rfl) rfl o_iadd ?_
    refine y_goto (t := 59) (ck_at dt_Tr_addRounds 35 rfl) rfl ?_
    exact y_wk (c_Tr_addRounds_59_ok (by omega) hS w) ⟨rfl, ⟨rfl, ⟨rfl, trivial⟩⟩⟩
def c_Tr_addRounds_0 (h1 : qH) (d : Nat) (x1 : Int) (x2 : Int) (x3 : Int) (x4 : Int) (B : qB) (Q : qO → qB → Prop) : Prop := 0 ≤ x1 ∧ x1 < 408 ∧ R32 x3 ∧ (¬ x3 = (-1) → c_Tr_addRounds_35 h1 d x1 x2 x3 x4 (x2 * (B 97 x1)) ((x3 - x2) * ((B 97 x1) + 1)) B Q) ∧ (x3 = (-1) → c_Tr_addRounds_35 h1 d x1 x2 x3 x4 (x2 * (B 97 x1)) ((B 97 x1) + 1) B Q)
theorem c_Tr_addRounds_0_ok {h1 : qH} {d : Nat} {x1 : Int} {x2 : Int} {x3 : Int} {x4 : Int} {B : qB} {Q : qO → qB → Prop} (hd : 2 ≤ d) (hS : SH B) (w : c_Tr_addRounds_0 h1 d x1 x2 x3 x4 B Q) : qY h1 (d + 1) n_Tr_addRounds 0 [some (.ref 90), some (iv x1), some (iv x2), some (iv x3), some (iv x4), none, none, none] [] B Q := by
  unfold c_Tr_addRounds_0 at w
  obtain ⟨p1, p2, p3, w⟩ := w
  refine y_ldk (ok := q_isA) (n := 0) (ck_at dt_Tr_addRounds 0 rfl) rfl rfl (fun _ => rfl) rfl rfl ?_
  refine y_ldk (ok := q_isI) (n := 1) (ck_at dt_Tr_addRounds 1 rfl) rfl rfl (fun _ => rfl) rfl rfl ?_
  refine y_virtP (k' := n_Tr_weightOf) (n := 0) (as := [iv x1]) (r := []) (ck_at dt_Tr_addRounds 2 rfl) own_Tr_addRounds (cm_at 78 rfl) vk_Tr_weightOf rfl nl_Tr_weightOf rfl rfl rfl rfl (SH.o hS ⟨by decide, by decide, by decide⟩) (Y_Tr_weightOf (by omega) hS p1 p2 ⟨rfl, rfl⟩) ?_
  refine y_st1 (ok := q_isI) (n := 5) (L' := [some (.ref 90), some (iv x1), some (iv x2), some (iv x3), some (iv x4), some (iv (B 97 x1)), none, none]) (ck_at dt_Tr_addRounds 3 rfl) rfl (fun _ => rfl) (fun _ _ => rfl) rfl nl_Tr_addRounds (by decide) rfl rfl ?_
  refine y_ldk (ok := q_isI) (n := 2) (ck_at dt_Tr_addRounds 4 rfl) rfl rfl (fun _ => rfl) rfl rfl ?_
  refine y_ldk (ok := q_isI) (n := 5) (ck_at dt_Tr_addRounds 5 rfl) rfl rfl (fun _ => rfl) rfl rfl ?_
  refine y_op (ck_at dt_Tr_addRounds 6 rfl) rfl o_imul ?_
  refine y_st1 (ok := q_isI) (n := 6) (L' := [some (.ref 90), some (iv x1), some (iv x2), some (iv x3), some (iv x4), some (iv (B 97 x1)), some (iv (x2 * (B 97 x1))), none]) (ck_at dt_Tr_addRounds 7 rfl) rfl (fun _ => rfl) (fun _ _ => rfl) rfl nl_Tr_addRounds (by decide) rfl rfl ?_
  refine y_ldk (ok := q_isI) (n := 6) (ck_at dt_Tr_addRounds 8 rfl) rfl rfl (fun _ => rfl) rfl rfl ?_
  refine y_ldk (ok := q_isI) (n := 3) (ck_at dt_Tr_addRounds 9 rfl) rfl rfl (fun _ => rfl) rfl rfl ?_
  refine y_op (ck_at dt_Tr_addRounds 10 rfl) rfl (o_const _) ?_
  refine y_icmp (t := 27) (ck_at dt_Tr_addRounds 11 rfl) rfl p3 ⟨by decide, by decide⟩ ?_ ?_
  · intro q; have w := w.1 q
    refine y_ldk (ok := q_isI) (n := 3) (ck_at dt_Tr_addRounds 16 rfl) rfl rfl (fun _ => rfl) rfl rfl ?_
    refine y_ldk (ok := q_isI) (n := 2) (ck_at dt_Tr_addRounds 17 rfl) rfl rfl (fun _ => rfl) rfl rfl ?_
    refine y_op (ck_at dt_Tr_addRounds 18 rfl) rfl o_isub ?_
    refine y_ldk (ok := q_isI) (n := 5) (ck_at dt_Tr_addRounds 19 rfl) rfl rfl (fun _ => rfl) rfl rfl ?_
    refine y_op (ck_at dt_Tr_addRounds 20 rfl) rfl (o_const _) ?_
    refine y_op (ck_at dt_Tr_addRounds 21 rfl) rfl o_iadd ?_
    refine y_op (ck_at dt_Tr_addRounds 22 rfl) rfl o_imul ?_
    exact y_wk (c_Tr_addRounds_35_ok (by omega) hS w) ⟨rfl, ⟨rfl, ⟨rfl, ⟨rfl, ⟨rfl, trivial⟩⟩⟩⟩⟩
  · intro q; have w := w.2 q
    refine y_ldk (ok := q_isI) (n := 5) (ck_at dt_Tr_addRounds 12 rfl) rfl rfl (fun _ => rfl) rfl rfl ?_
    refine y_op (ck_at dt_Tr_addRounds 13 rfl) rfl (o_const _) ?_
    refine y_op (ck_at dt_Tr_addRounds 14 rfl) rfl o_iadd ?_
    refine y_goto (t := 35) (ck_at dt_Tr_addRounds 15 rfl) rfl ?_
    exact y_wk (c_Tr_addRounds_35_ok (by omega) hS w) ⟨rfl, ⟨rfl, ⟨rfl, ⟨rfl, ⟨rfl, trivial⟩⟩⟩⟩⟩
/-! PatternTrier$Tree.onlySet(I)I -/
def t_Tr_onlySet : List (Nat × Instr × Nat) := [(0, .aload_n 0, 1), (1, .iload_n 1, 1), (2, .invokevirtual 69, 3), (5, .istore_n 2, 1), (6, .aload_n 0, 1), (7, .iload_n 2, 1), (8, .invokevirtual 69, 3), (11, .istore_n 3, 1), (12, .iload_n 3, 1), (13, .ifCond .eq 23, 3), (16, .aload_n 0, 1), (17, .iload_n 2, 1), (18, .invokevirtual 72, 3), (21, .ifCond .ne 15, 3), (24, .aload_n 0, 1), (25, .iload_n 3, 1), (26, .invokevirtual 72, 3), (29, .ifCond .ne 7, 3), (32, .iconst 1, 1), (33, .goto 4, 3), (36, .iconst 0, 1), (37, .istore 4, 2), (39, .iload 4, 2), (41, .ifCond .eq 20, 3), (44, .aload_n 0, 1), (45, .iload_n 3, 1), (46, .invokevirtual 75, 3), (49, .iconst 2, 1), (50, .if_icmp .ne 11, 3), (53, .aload_n 0, 1), (54, .iload_n 3, 1), (55, .invokevirtual 78, 3), (58, .goto 4, 3), (61, .iconst (-1), 1), (62, .ireturn, 1)]
set_option maxRecDepth 100000 in
theorem dt_Tr_onlySet : q_ck n_Tr_onlySet t_Tr_onlySet = true := by decide +kernel
def c_Tr_onlySet_37 (h1 : qH) (d : Nat) (x3 : Int) (s0 : Int) (B : qB) (Q : qO → qB → Prop) : Prop := R32 s0 ∧ (s0 = 0 → Q (.inl (some (iv (-1)))) B) ∧ (¬ s0 = 0 → 0 ≤ x3 ∧ x3 < 408 ∧ R32 (B 91 x3) ∧ (¬ B 91 x3 = 2 → Q (.inl (some (iv (-1)))) B) ∧ (B 91 x3 = 2 → Q (.inl (some (iv (B 92 x3)))) B))
theorem c_Tr_onlySet_37_ok {h1 : qH} {d : Nat} {x3 : Int} {s0 : Int} {B : qB} {Q : qO → qB → Prop} (hd : 2 ≤ d) (hS : SH B) (w : c_Tr_onlySet_37 h1 d x3 s0 B Q) : qY h1 (d + 1) n_Tr_onlySet 37 [some (.ref 90), none, none, some (iv x3), none] [iv s0] B Q := by
  unfold c_Tr_onlySet_37 at w
  obtain ⟨p1, w⟩ := w
  refine y_st1 (ok := q_isI) (n := 4) (L' := [some (.ref 90), none, none, some (iv x3), some (iv s0)]) (ck_at dt_Tr_onlySet 21 rfl) rfl (fun _ => rfl) (fun _ _ => rfl) rfl nl_Tr_onlySet (by decide) rfl rfl ?_
  refine y_ldk (ok := q_isI) (n := 4) (ck_at dt_Tr_onlySet 22 rfl) rfl rfl (fun _ => rfl) rfl rfl ?_
  refine y_ifz (t := 61) (ck_at dt_Tr_onlySet 23 rfl) rfl p1 ?_ ?_
  · intro q; have w := w.1 q
    refine y_op (ck_at dt_Tr_onlySet 33 rfl) rfl (o_const _) ?_
    exact y_retI (ck_at dt_Tr_onlySet 34 rfl) rt_Tr_onlySet w
  · intro q; have w := w.2 q
    obtain ⟨p2, p3, p4, w⟩ := w
    refine y_ldk (ok := q_isA) (n := 0) (ck_at dt_Tr_onlySet 24 rfl) rfl rfl (fun _ => rfl) rfl rfl ?_
    refine y_ldk (ok := q_isI) (n := 3) (ck_at dt_Tr_onlySet 25 rfl) rfl rfl (fun _ => rfl) rfl rfl ?_
    refine y_virtP (k' := n_Tr_kindOf) (n := 0) (as := [iv x3]) (r := []) (ck_at dt_Tr_onlySet 26 rfl) own_Tr_onlySet (cm_at 83 rfl) vk_Tr_kindOf rfl nl_Tr_kindOf rfl rfl rfl rfl (SH.o hS ⟨by decide, by decide, by decide⟩) (Y_Tr_kindOf (by omega) hS p2 p3 ⟨rfl, rfl⟩) ?_
    refine y_op (ck_at dt_Tr_onlySet 27 rfl) rfl (o_const _) ?_
    refine y_icmp (t := 61) (ck_at dt_Tr_onlySet 28 rfl) rfl p4 ⟨by decide, by decide⟩ ?_ ?_
    · intro q; have w := w.1 q
      refine y_op (ck_at dt_Tr_onlySet 33 rfl) rfl (o_const _) ?_
      exact y_retI (ck_at dt_Tr_onlySet 34 rfl) rt_Tr_onlySet w
    · intro q; have w := w.2 q
      refine y_ldk (ok := q_isA) (n := 0) (ck_at dt_Tr_onlySet 29 rfl) rfl rfl (fun _ => rfl) rfl rfl ?_
      refine y_ldk (ok := q_isI) (n := 3) (ck_at dt_Tr_onlySet 30 rfl) rfl rfl (fun _ => rfl) rfl rfl ?_
      refine y_virtP (k' := n_Tr_valueOf) (n := 0) (as := [iv x3]) (r := []) (ck_at dt_Tr_onlySet 31 rfl) own_Tr_onlySet (cm_at 84 rfl) vk_Tr_valueOf rfl nl_Tr_valueOf rfl rfl rfl rfl (SH.o hS ⟨by decide, by decide, by decide⟩) (Y_Tr_valueOf (by omega) hS p2 p3 ⟨rfl, rfl⟩) ?_
      refine y_goto (t := 62) (ck_at dt_Tr_onlySet 32 rfl) rfl ?_
      exact y_retI (ck_at dt_Tr_onlySet 34 rfl) rt_Tr_onlySet w
def c_Tr_onlySet_36 (h1 : qH) (d : Nat) (x3 : Int) (B : qB) (Q : qO → qB → Prop) : Prop := c_Tr_onlySet_37 h1 d x3 0 B Q
theorem c_Tr_onlySet_36_ok {h1 : qH} {d : Nat} {x3 : Int} {B : qB} {Q : qO → qB → Prop} (hd : 2 ≤ d) (hS : SH B) (w : c_Tr_onlySet_36 h1 d x3 B Q) : qY h1 (d + 1) n_Tr_onlySet 36 [some (.ref 90), none, none, some (iv x3), none] [] B Q := by
  unfold c_Tr_onlySet_36 at w
  refine y_op (ck_at dt_Tr_onlySet 20 rfl) rfl (o_const _) ?_
  exact y_wk (c_Tr_onlySet_37_ok (by omega) hS w) ⟨rfl, ⟨rfl, trivial⟩⟩
def c_Tr_onlySet_0 (h1 : qH) (d : Nat) (x1 : Int) (B : qB) (Q : qO → qB → Prop) : Prop := 0 ≤ x1 ∧ x1 < 408 ∧ 0 ≤ (B 93 x1) ∧ (B 93 x1) < 408 ∧ R32 (B 93 (B 93 x1)) ∧ (B 93 (B 93 x1) = 0 → c_Tr_onlySet_36 h1 d (B 93 (B 93 x1)) B Q) ∧ (¬ B 93 (B 93 x1) = 0 → R32 (B 94 (B 93 x1)) ∧ (¬ B 94 (B 93 x1) = 0 → c_Tr_onlySet_36 h1 d (B 93 (B 93 x1)) B Q) ∧ (B 94 (B 93 x1) = 0 → 0 ≤ (B 93 (B 93 x1)) ∧ (B 93 (B 93 x1)) < 408 ∧ R32 (B 94 (B 93 (B 93 x1))) ∧ (¬ B 94 (B 93 (B 93 x1)) = 0 → c_Tr_onlySet_36 h1 d (B 93 (B 93 x1)) B Q) ∧ (B 94 (B 93 (B 93 x1)) = 0 → c_Tr_onlySet_37 h1 d (B 93 (B 93 x1)) 1 B Q)))
theorem c_Tr_onlySet_0_ok {h1 : qH} {d : Nat} {x1 : Int} {B : qB} {Q : qO → qB → Prop} (hd : 2 ≤ d) (hS : SH B) (w : c_Tr_onlySet_0 h1 d x1 B Q) : qY h1 (d + 1) n_Tr_onlySet 0 [some (.ref 90), some (iv x1), none, none, none] [] B Q := by
  unfold c_Tr_onlySet_0 at w
  obtain ⟨p1, p2, p3, p4, p5, w⟩ := w
  refine y_ldk (ok := q_isA) (n := 0) (ck_at dt_Tr_onlySet 0 rfl) rfl rfl (fun _ => rfl) rfl rfl ?_
  refine y_ldk (ok := q_isI) (n := 1) (ck_at dt_Tr_onlySet 1 rfl) rfl rfl (fun _ => rfl) rfl rfl ?_
  refine y_virtP (k' := n_Tr_innerOf) (n := 0) (as := [iv x1]) (r := []) (ck_at dt_Tr_onlySet 2 rfl) own_Tr_onlySet (cm_at 81 rfl) vk_Tr_innerOf rfl nl_Tr_innerOf rfl rfl rfl rfl (SH.o hS ⟨by decide, by decide, by decide⟩) (Y_Tr_innerOf (by omega) hS p1 p2 ⟨rfl, rfl⟩) ?_
  refine y_st1 (ok := q_isI) (n := 2) (L' := [some (.ref 90), some (iv x1), some (iv (B 93 x1)), none, none]) (ck_at dt_Tr_onlySet 3 rfl) rfl (fun _ => rfl) (fun _ _ => rfl) rfl nl_Tr_onlySet (by decide) rfl rfl ?_
  refine y_ldk (ok := q_isA) (n := 0) (ck_at dt_Tr_onlySet 4 rfl) rfl rfl (fun _ => rfl) rfl rfl ?_
  refine y_ldk (ok := q_isI) (n := 2) (ck_at dt_Tr_onlySet 5 rfl) rfl rfl (fun _ => rfl) rfl rfl ?_
  refine y_virtP (k' := n_Tr_innerOf) (n := 0) (as := [iv (B 93 x1)]) (r := []) (ck_at dt_Tr_onlySet 6 rfl) own_Tr_onlySet (cm_at 81 rfl) vk_Tr_innerOf rfl nl_Tr_innerOf rfl rfl rfl rfl (SH.o hS ⟨by decide, by decide, by decide⟩) (Y_Tr_innerOf (by omega) hS p3 p4 ⟨rfl, rfl⟩) ?_
  refine y_st1 (ok := q_isI) (n := 3) (L' := [some (.ref 90), some (iv x1), some (iv (B 93 x1)), some (iv (B 93 (B 93 x1))), none]) (ck_at dt_Tr_onlySet 7 rfl) rfl (fun _ => rfl) (fun _ _ => rfl) rfl nl_Tr_onlySet (by decide) rfl rfl ?_
  refine y_ldk (ok := q_isI) (n := 3) (ck_at dt_Tr_onlySet 8 rfl) rfl rfl (fun _ => rfl) rfl rfl ?_
  refine y_ifz (t := 36) (ck_at dt_Tr_onlySet 9 rfl) rfl p5 ?_ ?_
  · intro q; have w := w.1 q
    exact y_wk (c_Tr_onlySet_36_ok (by omega) hS w) ⟨rfl, ⟨rfl, trivial⟩⟩
  · intro q; have w := w.2 q
    obtain ⟨p6, w⟩ := w
    refine y_ldk (ok := q_isA) (n := 0) (ck_at dt_Tr_onlySet 10 rfl) rfl rfl (fun _ => rfl) rfl rfl ?_
    refine y_ldk (ok := q_isI) (n := 2) (ck_at dt_Tr_onlySet 11 rfl) rfl rfl (fun _ => rfl) rfl rfl ?_
    refine y_virtP (k' := n_Tr_beforeOf) (n := 0) (as := [iv (B 93 x1)]) (r := []) (ck_at dt_Tr_onlySet 12 rfl) own_Tr_onlySet (cm_at 82 rfl) vk_Tr_beforeOf rfl nl_Tr_beforeOf rfl rfl rfl rfl (SH.o hS ⟨by decide, by decide, by decide⟩) (Y_Tr_beforeOf (by omega) hS p3 p4 ⟨rfl, rfl⟩) ?_
    refine y_ifz (t := 36) (ck_at dt_Tr_onlySet 13 rfl) rfl p6 ?_ ?_
    · intro q; have w := w.1 q
      exact y_wk (c_Tr_onlySet_36_ok (by omega) hS w) ⟨rfl, ⟨rfl, trivial⟩⟩
    · intro q; have w := w.2 q
      obtain ⟨p7, p8, p9, w⟩ := w
      refine y_ldk (ok := q_isA) (n := 0) (ck_at dt_Tr_onlySet 14 rfl) rfl rfl (fun _ => rfl) rfl rfl ?_
      refine y_ldk (ok := q_isI) (n := 3) (ck_at dt_Tr_onlySet 15 rfl) rfl rfl (fun _ => rfl) rfl rfl ?_
      refine y_virtP (k' := n_Tr_beforeOf) (n := 0) (as := [iv (B 93 (B 93 x1))]) (r := []) (ck_at dt_Tr_onlySet 16 rfl) own_Tr_onlySet (cm_at 82 rfl) vk_Tr_beforeOf rfl nl_Tr_beforeOf rfl rfl rfl rfl (SH.o hS ⟨by decide, by decide, by decide⟩) (Y_Tr_beforeOf (by omega) hS p7 p8 ⟨rfl, rfl⟩) ?_
      refine y_ifz (t := 36) (ck_at dt_Tr_onlySet 17 rfl) rfl p9 ?_ ?_
      · intro q; have w := w.1 q
        exact y_wk (c_Tr_onlySet_36_ok (by omega) hS w) ⟨rfl, ⟨rfl, trivial⟩⟩
      · intro q; have w := w.2 q
        refine y_op (ck_at dt_Tr_onlySet 18 rfl) rfl (o_const _) ?_
        refine y_goto (t := 37) (ck_at dt_Tr_onlySet 19 rfl) rfl ?_
        exact y_wk (c_Tr_onlySet_37_ok (by omega) hS w) ⟨rfl, ⟨rfl, trivial⟩⟩
/-! PatternTrier$Program.clear()V -/
def t_Pr_clear : List (Nat × Instr × Nat) := [(0, .aload_n 0, 1), (1, .iconst 0, 1), (2, .putfield 47, 3), (5, .aload_n 0, 1), (6, .iconst 0, 1), (7, .putfield 50, 3), (10, .aload_n 0, 1), (11, .bipush 18, 2), (13, .iconst 0, 1), (14, .iconst 0, 1), (15, .iconst 0, 1), (16, .invokevirtual 53, 3), (19, .pop, 1), (20, .return_, 1)]
set_option maxRecDepth 100000 in
theorem dt_Pr_clear : q_ck n_Pr_clear t_Pr_clear = true := by decide +kernel
def c_Pr_clear_0 (h1 : qH) (d : Nat) (a0 : Nat) (B : qB) (Q : qO → qB → Prop) : Prop := 0 ≤ (u2 (u2 B a0 7 0) a0 8 0) a0 7 ∧ (u2 (u2 B a0 7 0) a0 8 0) a0 7 < 608 ∧ Q (.inl none) (paC (u2 (u2 B a0 7 0) a0 8 0) a0 18 0 0 0)
theorem c_Pr_clear_0_ok {h1 : qH} {d : Nat} {a0 : Nat} {B : qB} {Q : qO → qB → Prop} (hd : 2 ≤ d) (hS : SH B) (ha0 : ob 5 a0) (w : c_Pr_clear_0 h1 d a0 B Q) : qY h1 (d + 1) n_Pr_clear 0 [some (.ref a0)] [] B Q := by
  unfold c_Pr_clear_0 at w
  obtain ⟨p3, p4, w⟩ := w
  refine y_ldk (ok := q_isA) (n := 0) (ck_at dt_Pr_clear 0 rfl) rfl rfl (fun _ => rfl) rfl rfl ?_
  refine y_op (ck_at dt_Pr_clear 1 rfl) rfl (o_const _) ?_
  refine y_putI (K := 5) (j := 7) (a := a0) (ck_at dt_Pr_clear 2 rfl) own_Pr_clear (cf_at 19 rfl) rfl rfl rfl rfl rfl ⟨⟨SH.o hS ha0, ob.lt ha0⟩, ?_⟩
  have hS1 := SH_u2 (b := a0) (x := 7) (z := 0) hS (by decide)
  refine y_ldk (ok := q_isA) (n := 0) (ck_at dt_Pr_clear 3 rfl) rfl rfl (fun _ => rfl) rfl rfl ?_
  refine y_op (ck_at dt_Pr_clear 4 rfl) rfl (o_const _) ?_
  refine y_putI (K := 5) (j := 8) (a := a0) (ck_at dt_Pr_clear 5 rfl) own_Pr_clear (cf_at 20 rfl) rfl rfl rfl rfl rfl ⟨⟨SH.o hS1 ha0, ob.lt ha0⟩, ?_⟩
  have hS2 := SH_u2 (b := a0) (x := 8) (z := 0) hS1 (by decide)
  refine y_ldk (ok := q_isA) (n := 0) (ck_at dt_Pr_clear 6 rfl) rfl rfl (fun _ => rfl) rfl rfl ?_
  refine y_op (ck_at dt_Pr_clear 7 rfl) rfl (o_bipush _ (by decide)) ?_
  refine y_op (ck_at dt_Pr_clear 8 rfl) rfl (o_const _) ?_
  refine y_op (ck_at dt_Pr_clear 9 rfl) rfl (o_const _) ?_
  refine y_op (ck_at dt_Pr_clear 10 rfl) rfl (o_const _) ?_
  refine y_virtP (k' := n_Pr_add) (n := 1) (as := [iv 18, iv 0, iv 0, iv 0]) (r := []) (ck_at dt_Pr_clear 11 rfl) own_Pr_clear (cm_at 32 rfl) vk_Pr_add rfl nl_Pr_add rfl rfl rfl rfl (SH.o hS2 ha0) (Y_Pr_add (by omega) hS2 ha0 p3 p4 ⟨by decide, by decide⟩ ⟨rfl, rfl⟩) ?_
  have hS5 : SH (paC (u2 (u2 B a0 7 0) a0 8 0) a0 18 0 0 0) := S_Pr_add hS2 ha0 p3 p4 ⟨by decide, by decide⟩
  refine y_op (ck_at dt_Pr_clear 12 rfl) rfl rfl ?_
  exact y_ret0 (ck_at dt_Pr_clear 13 rfl) rt_Pr_clear w
/-! PatternTrier$Builder.branch(IIIZ)V -/
def t_Bu_branch : List (Nat × Instr × Nat) := [(0, .aload_n 0, 1), (1, .getfield 15, 3), (4, .iload_n 1, 1), (5, .iload 4, 2), (7, .ifCond .eq 7, 3), (10, .iload_n 3, 1), (11, .goto 4, 3), (14, .iload_n 2, 1), (15, .iload 4, 2), (17, .ifCond .eq 7, 3), (20, .iload_n 2, 1), (21, .goto 4, 3), (24, .iload_n 3, 1), (25, .invokevirtual 47, 3), (28, .return_, 1)]
set_option maxRecDepth 100000 in
theorem dt_Bu_branch : q_ck n_Bu_branch t_Bu_branch = true := by decide +kernel
def c_Bu_branch_15 (h1 : qH) (d : Nat) (x2 : Int) (x3 : Int) (x4 : Int) (r0 : Nat) (s1 : Int) (s2 : Int) (B : qB) (Q : qO → qB → Prop) : Prop := R32 x4 ∧ (x4 = 0 → 0 ≤ s1 ∧ s1 < 608 ∧ Q (.inl none) (u2 (u2 B (r0 + 3) s1 s2) (r0 + 4) s1 x3)) ∧ (¬ x4 = 0 → 0 ≤ s1 ∧ s1 < 608 ∧ Q (.inl none) (u2 (u2 B (r0 + 3) s1 s2) (r0 + 4) s1 x2))
theorem c_Bu_branch_15_ok {h1 : qH} {d : Nat} {x2 : Int} {x3 : Int} {x4 : Int} {r0 : Nat} {s1 : Int} {s2 : Int} {B : qB} {Q : qO → qB → Prop} (hd : 2 ≤ d) (hS : SH B) (hr0 : ob 5 r0) (w : c_Bu_branch_15 h1 d x2 x3 x4 r0 s1 s2 B Q) : qY h1 (d + 1) n_Bu_branch 15 [none, none, some (iv x2), some (iv x3), some (iv x4)] [iv s2, iv s1, .ref r0] B Q := by
  unfold c_Bu_branch_15 at w
  obtain ⟨p1, w⟩ := w
  refine y_ldk (ok := q_isI) (n := 4) (ck_at dt_Bu_branch 8 rfl) rfl rfl (fun _ => rfl) rfl rfl ?_
  refine y_ifz (t := 24) (ck_at dt_Bu_branch 9 rfl) rfl p1 ?_ ?_
  · intro q; have w := w.1 q
    obtain ⟨p2, p3, w⟩ := w
    refine y_ldk (ok := q_isI) (n := 3) (ck_at dt_Bu_branch 12 rfl) rfl rfl (fun _ => rfl) rfl rfl ?_
    refine y_virtV (k' := n_Pr_branch) (n := 0) (as := [iv s1, iv s2, iv x3]) (r := []) (ck_at dt_Bu_branch 13 rfl) own_Bu_branch (cm_at 7 rfl) vk_Pr_branch rfl nl_Pr_branch rfl rfl rfl rfl (SH.o hS hr0) (Y_Pr_branch (by omega) hS hr0 p2 p3 ⟨rfl, rfl⟩) ?_
    have hS4 := SH_u2 (b := r0 + 3) (x := s1) (z := s2) hS p2
    have hS5 := SH_u2 (b := r0 + 4) (x := s1) (z := x3) hS4 p2
    exact y_ret0 (ck_at dt_Bu_branch 14 rfl) rt_Bu_branch w
  · intro q; have w := w.2 q
    obtain ⟨p6, p7, w⟩ := w
    refine y_ldk (ok := q_isI) (n := 2) (ck_at dt_Bu_branch 10 rfl) rfl rfl (fun _ => rfl) rfl rfl ?_
    refine y_goto (t := 25) (ck_at dt_Bu_branch 11 rfl) rfl ?_
    refine y_virtV (k' := n_Pr_branch) (n := 0) (as := [iv s1, iv s2, iv x2]) (r := []) (ck_at dt_Bu_branch 13 rfl) own_Bu_branch (cm_at 7 rfl) vk_Pr_branch rfl nl_Pr_branch rfl rfl rfl rfl (SH.o hS hr0) (Y_Pr_branch (by omega) hS hr0 p6 p7 ⟨rfl, rfl⟩) ?_
    have hS8 := SH_u2 (b := r0 + 3) (x := s1) (z := s2) hS p6
    have hS9 := SH_u2 (b := r0 + 4) (x := s1) (z := x2) hS8 p6
    exact y_ret0 (ck_at dt_Bu_branch 14 rfl) rt_Bu_branch w
def c_Bu_branch_0 (h1 : qH) (d : Nat) (x1 : Int) (x2 : Int) (x3 : Int) (x4 : Int) (B : qB) (Q : qO → qB → Prop) : Prop := R32 x4 ∧ (x4 = 0 → ob 5 ((B 101 1).toNat) ∧ c_Bu_branch_15 h1 d x2 x3 x4 ((B 101 1).toNat) x1 x2 B Q) ∧ (¬ x4 = 0 → ob 5 ((B 101 1).toNat) ∧ c_Bu_branch_15 h1 d x2 x3 x4 ((B 101 1).toNat) x1 x3 B Q)
theorem c_Bu_branch_0_ok {h1 : qH} {d : Nat} {x1 : Int} {x2 : Int} {x3 : Int} {x4 : Int} {B : qB} {Q : qO → qB → Prop} (hd : 2 ≤ d) (hS : SH B) (w : c_Bu_branch_0 h1 d x1 x2 x3 x4 B Q) : qY h1 (d + 1) n_Bu_branch 0 [some (.ref 101), some (iv x1), some (iv x2), some (iv x3), some (iv x4)] [] B Q := by
  unfold c_Bu_branch_0 at w
  obtain ⟨p1, w⟩ := w
  refine y_ldk (ok := q_isA) (n := 0) (ck_at dt_Bu_branch 0 rfl) rfl rfl (fun _ => rfl) rfl rfl ?_
  refine y_getD (K := 0) (j := 1) (a := 101) (ck_at dt_Bu_branch 1 rfl) own_Bu_branch (cf_at 1 rfl) rfl rfl rfl ⟨(SH.o hS ⟨by decide, by decide, by decide⟩), ?_⟩
  refine y_ldk (ok := q_isI) (n := 1) (ck_at dt_Bu_branch 2 rfl) rfl rfl (fun _ => rfl) rfl rfl ?_
  refine y_ldk (ok := q_isI) (n := 4) (ck_at dt_Bu_branch 3 rfl) rfl rfl (fun _ => rfl) rfl rfl ?_
  refine y_ifz (t := 14) (ck_at dt_Bu_branch 4 rfl) rfl p1 ?_ ?_
  · intro q; have w := w.1 q
    obtain ⟨p2, w⟩ := w
    refine y_ldk (ok := q_isI) (n := 2) (ck_at dt_Bu_branch 7 rfl) rfl rfl (fun _ => rfl) rfl rfl ?_
    exact y_wk (c_Bu_branch_15_ok (by omega) hS p2 w) ⟨rfl, ⟨rfl, ⟨rfl, trivial⟩⟩⟩
  · intro q; have w := w.2 q
    obtain ⟨p3, w⟩ := w
    refine y_ldk (ok := q_isI) (n := 3) (ck_at dt_Bu_branch 5 rfl) rfl rfl (fun _ => rfl) rfl rfl ?_
    refine y_goto (t := 15) (ck_at dt_Bu_branch 6 rfl) rfl ?_
    exact y_wk (c_Bu_branch_15_ok (by omega) hS p3 w) ⟨rfl, ⟨rfl, ⟨rfl, trivial⟩⟩⟩
/-! PatternTrier$Walker.isEdge()Z -/
def t_Wa_isEdge : List (Nat × Instr × Nat) := [(0, .aload_n 0, 1), (1, .getfield 33, 3), (4, .aload_n 0, 1), (5, .getfield 96, 3), (8, .iconst 1, 1), (9, .isub, 1), (10, .invokevirtual 116, 3), (13, .invokestatic 164, 3), (16, .aload_n 0, 1), (17, .getfield 33, 3), (20, .aload_n 0, 1), (21, .getfield 96, 3), (24, .invokevirtual 116, 3), (27, .invokestatic 164, 3), (30, .if_icmp .eq 7, 3), (33, .iconst 1, 1), (34, .goto 4, 3), (37, .iconst 0, 1), (38, .ireturn, 1)]
set_option maxRecDepth 100000 in
theorem dt_Wa_isEdge : q_ck n_Wa_isEdge t_Wa_isEdge = true := by decide +kernel
def c_Wa_isEdge_0 (h1 : qH) (d : Nat) (B : qB) (Q : qO → qB → Prop) : Prop := ob 1 ((B 102 4).toNat) ∧ bOK B ((B 102 4).toNat) ∧ R32 ((B 102 7) - 1) ∧ R32 (byA B ((B 102 4).toNat) ((B 102 7) - 1)) ∧ R32 (B 102 7) ∧ R32 (byA B ((B 102 4).toNat) (B 102 7)) ∧ (bi (isWd (byA B ((B 102 4).toNat) ((B 102 7) - 1))) = bi (isWd (byA B ((B 102 4).toNat) (B 102 7))) → Q (.inl (some (iv 0))) B) ∧ (¬ bi (isWd (byA B ((B 102 4).toNat) ((B 102 7) - 1))) = bi (isWd (byA B ((B 102 4).toNat) (B 102 7))) → Q (.inl (some (iv 1))) B)
theorem c_Wa_isEdge_0_ok {h1 : qH} {d : Nat} {B : qB} {Q : qO → qB → Prop} (hd : 2 ≤ d) (hS : SH B) (w : c_Wa_isEdge_0 h1 d B Q) : qY h1 (d + 1) n_Wa_isEdge 0 [some (.ref 102)] [] B Q := by
  unfold c_Wa_isEdge_0 at w
  obtain ⟨p1, p2, p3, p4, p5, p6, w⟩ := w
  refine y_ldk (ok := q_isA) (n := 0) (ck_at dt_Wa_isEdge 0 rfl) rfl rfl (fun _ => rfl) rfl rfl ?_
  refine y_getD (K := 9) (j := 4) (a := 102) (ck_at dt_Wa_isEdge 1 rfl) own_Wa_isEdge (cf_at 45 rfl) rfl rfl rfl ⟨(SH.o hS ⟨by decide, by decide, by decide⟩), ?_⟩
  refine y_ldk (ok := q_isA) (n := 0) (ck_at dt_Wa_isEdge 2 rfl) rfl rfl (fun _ => rfl) rfl rfl ?_
  refine y_getI (K := 9) (j := 7) (a := 102) (ck_at dt_Wa_isEdge 3 rfl) own_Wa_isEdge (cf_at 48 rfl) rfl rfl rfl ⟨(SH.o hS ⟨by decide, by decide, by decide⟩), ?_⟩
  refine y_op (ck_at dt_Wa_isEdge 4 rfl) rfl (o_const _) ?_
  refine y_op (ck_at dt_Wa_isEdge 5 rfl) rfl o_isub ?_
  refine y_virtP (k' := n_By_at) (n := 0) (as := [iv ((B 102 7) - 1)]) (r := []) (ck_at dt_Wa_isEdge 6 rfl) own_Wa_isEdge (cm_at 99 rfl) vk_By_at rfl nl_By_at rfl rfl rfl rfl (SH.o hS p1) (Y_By_at (by omega) hS p1 p2 p3 ⟨rfl, rfl⟩) ?_
  refine y_statP (k' := n_Wa_isWord) (n := 0) (as := [iv (byA B ((B 102 4).toNat) ((B 102 7) - 1))]) (r := []) (ck_at dt_Wa_isEdge 7 rfl) own_Wa_isEdge (cm_at 114 rfl) (cs_at 23 rfl) vk_Wa_isWord rfl nl_Wa_isWord rfl rfl rfl rfl  (Y_Wa_isWord (by omega) hS p4 ⟨rfl, rfl⟩) ?_
  refine y_ldk (ok := q_isA) (n := 0) (ck_at dt_Wa_isEdge 8 rfl) rfl rfl (fun _ => rfl) rfl rfl ?_
  refine y_getD (K := 9) (j := 4) (a := 102) (ck_at dt_Wa_isEdge 9 rfl) own_Wa_isEdge (cf_at 45 rfl) rfl rfl rfl ⟨(SH.o hS ⟨by decide, by decide, by decide⟩), ?_⟩
  refine y_ldk (ok := q_isA) (n := 0) (ck_at dt_Wa_isEdge 10 rfl) rfl rfl (fun _ => rfl) rfl rfl ?_
  refine y_getI (K := 9) (j := 7) (a := 102) (ck_at dt_Wa_isEdge 11 rfl) own_Wa_isEdge (cf_at 48 rfl) rfl rfl rfl ⟨(SH.o hS ⟨by decide, by decide, by decide⟩), ?_⟩
  refine y_virtP (k' := n_By_at) (n := 0) (as := [iv (B 102 7)]) (r := [iv (bi (isWd (byA B ((B 102 4).toNat) ((B 102 7) - 1))))]) (ck_at dt_Wa_isEdge 12 rfl) own_Wa_isEdge (cm_at 99 rfl) vk_By_at rfl nl_By_at rfl rfl rfl rfl (SH.o hS p1) (Y_By_at (by omega) hS p1 p2 p5 ⟨rfl, rfl⟩) ?_
  refine y_statP (k' := n_Wa_isWord) (n := 0) (as := [iv (byA B ((B 102 4).toNat) (B 102 7))]) (r := [iv (bi (isWd (byA B ((B 102 4).toNat) ((B 102 7) - 1))))]) (ck_at dt_Wa_isEdge 13 rfl) own_Wa_isEdge (cm_at 114 rfl) (cs_at 23 rfl) vk_Wa_isWord rfl nl_Wa_isWord rfl rfl rfl rfl  (Y_Wa_isWord (by omega) hS p6 ⟨rfl, rfl⟩) ?_
  refine y_icmp (t := 37) (ck_at dt_Wa_isEdge 14 rfl) rfl (R32_bi _) (R32_bi _) ?_ ?_
  · intro q; have w := w.1 q
    refine y_op (ck_at dt_Wa_isEdge 17 rfl) rfl (o_const _) ?_
    exact y_retZ (ck_at dt_Wa_isEdge 18 rfl) rt_Wa_isEdge (by decide) w
  · intro q; have w := w.2 q
    refine y_op (ck_at dt_Wa_isEdge 15 rfl) rfl (o_const _) ?_
    refine y_goto (t := 38) (ck_at dt_Wa_isEdge 16 rfl) rfl ?_
    exact y_retZ (ck_at dt_Wa_isEdge 18 rfl) rt_Wa_isEdge (by decide) w
