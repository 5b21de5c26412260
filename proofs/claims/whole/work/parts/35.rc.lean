/-! emit(III)I -/
def t_emit : List (Nat × Instr × Nat) := [(0, .aload_n 0, 1), (1, .getfield 100, 3), (4, .aload_n 0, 1), (5, .getfield 283, 3), (8, .iload_n 1, 1), (9, .iastore, 1), (10, .aload_n 0, 1), (11, .getfield 103, 3), (14, .aload_n 0, 1), (15, .getfield 283, 3), (18, .iload_n 2, 1), (19, .iastore, 1), (20, .aload_n 0, 1), (21, .getfield 106, 3), (24, .aload_n 0, 1), (25, .getfield 283, 3), (28, .iload_n 3, 1), (29, .iastore, 1), (30, .aload_n 0, 1), (31, .getfield 109, 3), (34, .aload_n 0, 1), (35, .getfield 283, 3), (38, .aload_n 0, 1), (39, .getfield 286, 3), (42, .iastore, 1), (43, .iload_n 1, 1), (44, .iconst 1, 1), (45, .if_icmp .eq 9, 3), (48, .iload_n 1, 1), (49, .bipush 6, 2), (51, .if_icmp .ne 95, 3), (54, .aload_n 0, 1), (55, .getfield 121, 3), (58, .aload_n 0, 1), (59, .getfield 286, 3), (62, .aload_n 0, 1), (63, .getfield 289, 3), (66, .iastore, 1), (67, .aload_n 0, 1), (68, .getfield 127, 3), (71, .aload_n 0, 1), (72, .getfield 286, 3), (75, .aload_n 0, 1), (76, .getfield 292, 3), (79, .iastore, 1), (80, .aload_n 0, 1), (81, .dup, 1), (82, .getfield 292, 3), (85, .iconst 1, 1), (86, .iadd, 1), (87, .putfield 292, 3), (90, .aload_n 0, 1), (91, .getfield 289, 3), (94, .istore 4, 2), (96, .iload 4, 2), (98, .ifCond .lt 25, 3), (101, .aload_n 0, 1), (102, .dup, 1), (103, .getfield 292, 3), (106, .iconst 1, 1), (107, .iadd, 1), (108, .putfield 292, 3), (111, .aload_n 0, 1), (112, .getfield 124, 3), (115, .iload 4, 2), (117, .iaload, 1), (118, .istore 4, 2), (120, .goto (-24), 3), (123, .aload_n 0, 1), (124, .dup, 1), (125, .getfield 286, 3), (128, .iconst 1, 1), (129, .iadd, 1), (130, .putfield 286, 3), (133, .aload_n 0, 1), (134, .getfield 127, 3), (137, .aload_n 0, 1), (138, .getfield 286, 3), (141, .aload_n 0, 1), (142, .getfield 292, 3), (145, .iastore, 1), (146, .aload_n 0, 1), (147, .dup, 1), (148, .getfield 283, 3), (151, .iconst 1, 1), (152, .iadd, 1), (153, .putfield 283, 3), (156, .aload_n 0, 1), (157, .getfield 283, 3), (160, .iconst 1, 1), (161, .isub, 1), (162, .ireturn, 1)]
set_option maxRecDepth 100000 in
theorem dt_emit : q_ck k_emit t_emit = true := by decide +kernel
def r_emit_146 (m : Nat) (h0 : qH) (d : Nat) (B : qB) (Q : qO → qB → Prop) : Prop := Q (.inl (some (iv (((B 46 0) + 1) - 1)))) (u2 B 46 0 ((B 46 0) + 1))
theorem r_emit_146_ok {m : Nat} {h0 : qH} {d : Nat} {B : qB} {Q : qO → qB → Prop} (hm : m + 100 < 1000000000) (w : r_emit_146 m h0 d B Q) : qZ m h0 (d + 1) k_emit 146 [some (.ref m), none, none, none, none] [] B Q := by
  unfold r_emit_146 at w
  refine z_ldk (ok := q_isA) (n := 0) (ck_at dt_emit 81 rfl) rfl rfl (fun _ => rfl) rfl rfl ?_
  refine z_op (ck_at dt_emit 82 rfl) rfl rfl ?_
  refine z_getI (j := 46) (ck_at dt_emit 83 rfl) own_emit (mf_at 61 rfl) (by decide) rfl ?_
  refine z_op (ck_at dt_emit 84 rfl) rfl (o_const _) ?_
  refine z_op (ck_at dt_emit 85 rfl) rfl o_iadd ?_
  refine z_putI (j := 46) hm (ck_at dt_emit 86 rfl) own_emit (mf_at 61 rfl) (by decide) rfl rfl rfl ?_
  refine z_ldk (ok := q_isA) (n := 0) (ck_at dt_emit 87 rfl) rfl rfl (fun _ => rfl) rfl rfl ?_
  refine z_getI (j := 46) (ck_at dt_emit 88 rfl) own_emit (mf_at 61 rfl) (by decide) rfl ?_
  refine z_op (ck_at dt_emit 89 rfl) rfl (o_const _) ?_
  refine z_op (ck_at dt_emit 90 rfl) rfl o_isub ?_
  exact z_retI (ck_at dt_emit 91 rfl) rt_emit w
def r_emit_96 (m : Nat) (h0 : qH) (d : Nat) (x4 : Int) (B : qB) (Q : qO → qB → Prop) : Prop := R32 x4 ∧ (x4 < 0 → 0 ≤ (B 48 0) + 1 ∧ (B 48 0) + 1 < 2001 ∧ r_emit_146 m h0 d (u2 (u2 B 48 0 ((B 48 0) + 1)) 54 ((B 48 0) + 1) (B 56 0)) Q) ∧ (x4 ≥ 0 → 0 ≤ x4 ∧ x4 < 800 ∧ qZ m h0 (d + 1) k_emit 96 [some (.ref m), none, none, none, some (iv (B 53 x4))] [] (u2 B 56 0 ((B 56 0) + 1)) Q)
theorem r_emit_96_ok {m : Nat} {h0 : qH} {d : Nat} {x4 : Int} {B : qB} {Q : qO → qB → Prop} (hm : m + 100 < 1000000000) (w : r_emit_96 m h0 d x4 B Q) : qZ m h0 (d + 1) k_emit 96 [some (.ref m), none, none, none, some (iv x4)] [] B Q := by
  unfold r_emit_96 at w
  obtain ⟨p1, w⟩ := w
  refine z_ldk (ok := q_isI) (n := 4) (ck_at dt_emit 54 rfl) rfl rfl (fun _ => rfl) rfl rfl ?_
  refine z_ifz (t := 123) (ck_at dt_emit 55 rfl) rfl p1 ?_ ?_
  · intro q; have w := w.1 q
    obtain ⟨p2, p3, w⟩ := w
    refine z_ldk (ok := q_isA) (n := 0) (ck_at dt_emit 68 rfl) rfl rfl (fun _ => rfl) rfl rfl ?_
    refine z_op (ck_at dt_emit 69 rfl) rfl rfl ?_
    refine z_getI (j := 48) (ck_at dt_emit 70 rfl) own_emit (mf_at 63 rfl) (by decide) rfl ?_
    refine z_op (ck_at dt_emit 71 rfl) rfl (o_const _) ?_
    refine z_op (ck_at dt_emit 72 rfl) rfl o_iadd ?_
    refine z_putI (j := 48) hm (ck_at dt_emit 73 rfl) own_emit (mf_at 63 rfl) (by decide) rfl rfl rfl ?_
    refine z_ldk (ok := q_isA) (n := 0) (ck_at dt_emit 74 rfl) rfl rfl (fun _ => rfl) rfl rfl ?_
    refine z_getR (j := 54) (a := 37) (ck_at dt_emit 75 rfl) own_emit (mf_at 38 rfl) (by decide) rfl rfl ?_
    refine z_ldk (ok := q_isA) (n := 0) (ck_at dt_emit 76 rfl) rfl rfl (fun _ => rfl) rfl rfl ?_
    refine z_getI (j := 48) (ck_at dt_emit 77 rfl) own_emit (mf_at 63 rfl) (by decide) rfl ?_
    refine z_ldk (ok := q_isA) (n := 0) (ck_at dt_emit 78 rfl) rfl rfl (fun _ => rfl) rfl rfl ?_
    refine z_getI (j := 56) (ck_at dt_emit 79 rfl) own_emit (mf_at 64 rfl) (by decide) rfl ?_
    refine z_iast (j := 54) (n := 2001) hm (ck_at dt_emit 80 rfl) rfl rfl rfl p2 p3 ?_
    exact z_wk (r_emit_146_ok hm w) ⟨rfl, trivial⟩
  · intro q; have w := w.2 q
    obtain ⟨p4, p5, w⟩ := w
    refine z_ldk (ok := q_isA) (n := 0) (ck_at dt_emit 56 rfl) rfl rfl (fun _ => rfl) rfl rfl ?_
    refine z_op (ck_at dt_emit 57 rfl) rfl rfl ?_
    refine z_getI (j := 56) (ck_at dt_emit 58 rfl) own_emit (mf_at 64 rfl) (by decide) rfl ?_
    refine z_op (ck_at dt_emit 59 rfl) rfl (o_const _) ?_
    refine z_op (ck_at dt_emit 60 rfl) rfl o_iadd ?_
    refine z_putI (j := 56) hm (ck_at dt_emit 61 rfl) own_emit (mf_at 64 rfl) (by decide) rfl rfl rfl ?_
    refine z_ldk (ok := q_isA) (n := 0) (ck_at dt_emit 62 rfl) rfl rfl (fun _ => rfl) rfl rfl ?_
    refine z_getR (j := 53) (a := 36) (ck_at dt_emit 63 rfl) own_emit (mf_at 37 rfl) (by decide) rfl rfl ?_
    refine z_ldk (ok := q_isI) (n := 4) (ck_at dt_emit 64 rfl) rfl rfl (fun _ => rfl) rfl rfl ?_
    refine z_iald (j := 53) (n := 800) (ck_at dt_emit 65 rfl) rfl rfl rfl p4 p5 ?_
    refine z_st1 (ok := q_isI) (n := 4) (L' := [some (.ref m), none, none, none, some (iv (B 53 x4))]) (ck_at dt_emit 66 rfl) rfl (fun _ => rfl) (fun _ _ => rfl) rfl nl_emit (by decide) trivial rfl ?_
    refine z_goto (t := 96) (ck_at dt_emit 67 rfl) rfl ?_
    exact z_wk w ⟨rfl, ⟨rfl, trivial⟩⟩
def r_emit_54 (m : Nat) (h0 : qH) (d : Nat) (B : qB) (Q : qO → qB → Prop) : Prop := 0 ≤ B 48 0 ∧ B 48 0 < 2000 ∧ B 48 0 < 2001 ∧ qZ m h0 (d + 1) k_emit 96 [some (.ref m), none, none, none, some (iv (B 55 0))] [] (u2 (u2 (u2 B 52 (B 48 0) (B 55 0)) 54 (B 48 0) (B 56 0)) 56 0 ((B 56 0) + 1)) Q
theorem r_emit_54_ok {m : Nat} {h0 : qH} {d : Nat} {B : qB} {Q : qO → qB → Prop} (hm : m + 100 < 1000000000) (w : r_emit_54 m h0 d B Q) : qZ m h0 (d + 1) k_emit 54 [some (.ref m), none, none, none, none] [] B Q := by
  unfold r_emit_54 at w
  obtain ⟨p1, p2, p3, w⟩ := w
  refine z_ldk (ok := q_isA) (n := 0) (ck_at dt_emit 31 rfl) rfl rfl (fun _ => rfl) rfl rfl ?_
  refine z_getR (j := 52) (a := 35) (ck_at dt_emit 32 rfl) own_emit (mf_at 36 rfl) (by decide) rfl rfl ?_
  refine z_ldk (ok := q_isA) (n := 0) (ck_at dt_emit 33 rfl) rfl rfl (fun _ => rfl) rfl rfl ?_
  refine z_getI (j := 48) (ck_at dt_emit 34 rfl) own_emit (mf_at 63 rfl) (by decide) rfl ?_
  refine z_ldk (ok := q_isA) (n := 0) (ck_at dt_emit 35 rfl) rfl rfl (fun _ => rfl) rfl rfl ?_
  refine z_getI (j := 55) (ck_at dt_emit 36 rfl) own_emit (mf_at 65 rfl) (by decide) rfl ?_
  refine z_iast (j := 52) (n := 2000) hm (ck_at dt_emit 37 rfl) rfl rfl rfl p1 p2 ?_
  refine z_ldk (ok := q_isA) (n := 0) (ck_at dt_emit 38 rfl) rfl rfl (fun _ => rfl) rfl rfl ?_
  refine z_getR (j := 54) (a := 37) (ck_at dt_emit 39 rfl) own_emit (mf_at 38 rfl) (by decide) rfl rfl ?_
  refine z_ldk (ok := q_isA) (n := 0) (ck_at dt_emit 40 rfl) rfl rfl (fun _ => rfl) rfl rfl ?_
  refine z_getI (j := 48) (ck_at dt_emit 41 rfl) own_emit (mf_at 63 rfl) (by decide) rfl ?_
  refine z_ldk (ok := q_isA) (n := 0) (ck_at dt_emit 42 rfl) rfl rfl (fun _ => rfl) rfl rfl ?_
  refine z_getI (j := 56) (ck_at dt_emit 43 rfl) own_emit (mf_at 64 rfl) (by decide) rfl ?_
  refine z_iast (j := 54) (n := 2001) hm (ck_at dt_emit 44 rfl) rfl rfl rfl p1 p3 ?_
  refine z_ldk (ok := q_isA) (n := 0) (ck_at dt_emit 45 rfl) rfl rfl (fun _ => rfl) rfl rfl ?_
  refine z_op (ck_at dt_emit 46 rfl) rfl rfl ?_
  refine z_getI (j := 56) (ck_at dt_emit 47 rfl) own_emit (mf_at 64 rfl) (by decide) rfl ?_
  refine z_op (ck_at dt_emit 48 rfl) rfl (o_const _) ?_
  refine z_op (ck_at dt_emit 49 rfl) rfl o_iadd ?_
  refine z_putI (j := 56) hm (ck_at dt_emit 50 rfl) own_emit (mf_at 64 rfl) (by decide) rfl rfl rfl ?_
  refine z_ldk (ok := q_isA) (n := 0) (ck_at dt_emit 51 rfl) rfl rfl (fun _ => rfl) rfl rfl ?_
  refine z_getI (j := 55) (ck_at dt_emit 52 rfl) own_emit (mf_at 65 rfl) (by decide) rfl ?_
  refine z_st1 (ok := q_isI) (n := 4) (L' := [some (.ref m), none, none, none, some (iv (B 55 0))]) (ck_at dt_emit 53 rfl) rfl (fun _ => rfl) (fun _ _ => rfl) rfl nl_emit (by decide) trivial rfl ?_
  exact z_wk w ⟨rfl, ⟨rfl, trivial⟩⟩
def r_emit_0 (m : Nat) (h0 : qH) (d : Nat) (x1 x2 x3 : Int) (B : qB) (Q : qO → qB → Prop) : Prop := 0 ≤ B 46 0 ∧ B 46 0 < 6000 ∧ R32 x1 ∧ (x1 = 1 → r_emit_54 m h0 d (u2 (u2 (u2 (u2 B 42 (B 46 0) x1) 43 (B 46 0) x2) 44 (B 46 0) x3) 45 (B 46 0) (B 48 0)) Q) ∧ (¬ x1 = 1 → (¬ x1 = 6 → r_emit_146 m h0 d (u2 (u2 (u2 (u2 B 42 (B 46 0) x1) 43 (B 46 0) x2) 44 (B 46 0) x3) 45 (B 46 0) (B 48 0)) Q) ∧ (x1 = 6 → r_emit_54 m h0 d (u2 (u2 (u2 (u2 B 42 (B 46 0) x1) 43 (B 46 0) x2) 44 (B 46 0) x3) 45 (B 46 0) (B 48 0)) Q))
theorem r_emit_0_ok {m : Nat} {h0 : qH} {d : Nat} {x1 x2 x3 : Int} {B : qB} {Q : qO → qB → Prop} (hm : m + 100 < 1000000000) (w : r_emit_0 m h0 d x1 x2 x3 B Q) : qZ m h0 (d + 1) k_emit 0 [some (.ref m), some (iv x1), some (iv x2), some (iv x3), none] [] B Q := by
  unfold r_emit_0 at w
  obtain ⟨p1, p2, p3, w⟩ := w
  refine z_ldk (ok := q_isA) (n := 0) (ck_at dt_emit 0 rfl) rfl rfl (fun _ => rfl) rfl rfl ?_
  refine z_getR (j := 42) (a := 28) (ck_at dt_emit 1 rfl) own_emit (mf_at 29 rfl) (by decide) rfl rfl ?_
  refine z_ldk (ok := q_isA) (n := 0) (ck_at dt_emit 2 rfl) rfl rfl (fun _ => rfl) rfl rfl ?_
  refine z_getI (j := 46) (ck_at dt_emit 3 rfl) own_emit (mf_at 61 rfl) (by decide) rfl ?_
  refine z_ldk (ok := q_isI) (n := 1) (ck_at dt_emit 4 rfl) rfl rfl (fun _ => rfl) rfl rfl ?_
  refine z_iast (j := 42) (n := 6000) hm (ck_at dt_emit 5 rfl) rfl rfl rfl p1 p2 ?_
  refine z_ldk (ok := q_isA) (n := 0) (ck_at dt_emit 6 rfl) rfl rfl (fun _ => rfl) rfl rfl ?_
  refine z_getR (j := 43) (a := 29) (ck_at dt_emit 7 rfl) own_emit (mf_at 30 rfl) (by decide) rfl rfl ?_
  refine z_ldk (ok := q_isA) (n := 0) (ck_at dt_emit 8 rfl) rfl rfl (fun _ => rfl) rfl rfl ?_
  refine z_getI (j := 46) (ck_at dt_emit 9 rfl) own_emit (mf_at 61 rfl) (by decide) rfl ?_
  refine z_ldk (ok := q_isI) (n := 2) (ck_at dt_emit 10 rfl) rfl rfl (fun _ => rfl) rfl rfl ?_
  refine z_iast (j := 43) (n := 6000) hm (ck_at dt_emit 11 rfl) rfl rfl rfl p1 p2 ?_
  refine z_ldk (ok := q_isA) (n := 0) (ck_at dt_emit 12 rfl) rfl rfl (fun _ => rfl) rfl rfl ?_
  refine z_getR (j := 44) (a := 30) (ck_at dt_emit 13 rfl) own_emit (mf_at 31 rfl) (by decide) rfl rfl ?_
  refine z_ldk (ok := q_isA) (n := 0) (ck_at dt_emit 14 rfl) rfl rfl (fun _ => rfl) rfl rfl ?_
  refine z_getI (j := 46) (ck_at dt_emit 15 rfl) own_emit (mf_at 61 rfl) (by decide) rfl ?_
  refine z_ldk (ok := q_isI) (n := 3) (ck_at dt_emit 16 rfl) rfl rfl (fun _ => rfl) rfl rfl ?_
  refine z_iast (j := 44) (n := 6000) hm (ck_at dt_emit 17 rfl) rfl rfl rfl p1 p2 ?_
  refine z_ldk (ok := q_isA) (n := 0) (ck_at dt_emit 18 rfl) rfl rfl (fun _ => rfl) rfl rfl ?_
  refine z_getR (j := 45) (a := 31) (ck_at dt_emit 19 rfl) own_emit (mf_at 32 rfl) (by decide) rfl rfl ?_
  refine z_ldk (ok := q_isA) (n := 0) (ck_at dt_emit 20 rfl) rfl rfl (fun _ => rfl) rfl rfl ?_
  refine z_getI (j := 46) (ck_at dt_emit 21 rfl) own_emit (mf_at 61 rfl) (by decide) rfl ?_
  refine z_ldk (ok := q_isA) (n := 0) (ck_at dt_emit 22 rfl) rfl rfl (fun _ => rfl) rfl rfl ?_
  refine z_getI (j := 48) (ck_at dt_emit 23 rfl) own_emit (mf_at 63 rfl) (by decide) rfl ?_
  refine z_iast (j := 45) (n := 6000) hm (ck_at dt_emit 24 rfl) rfl rfl rfl p1 p2 ?_
  refine z_ldk (ok := q_isI) (n := 1) (ck_at dt_emit 25 rfl) rfl rfl (fun _ => rfl) rfl rfl ?_
  refine z_op (ck_at dt_emit 26 rfl) rfl (o_const _) ?_
  refine z_icmp (t := 54) (ck_at dt_emit 27 rfl) rfl p3 ⟨by decide, by decide⟩ ?_ ?_
  · intro q; have w := w.1 q
    exact z_wk (r_emit_54_ok hm w) ⟨rfl, trivial⟩
  · intro q; have w := w.2 q
    refine z_ldk (ok := q_isI) (n := 1) (ck_at dt_emit 28 rfl) rfl rfl (fun _ => rfl) rfl rfl ?_
    refine z_op (ck_at dt_emit 29 rfl) rfl (o_bipush _ (by decide)) ?_
    refine z_icmp (t := 146) (ck_at dt_emit 30 rfl) rfl p3 ⟨by decide, by decide⟩ ?_ ?_
    · intro q; have w := w.1 q
      exact z_wk (r_emit_146_ok hm w) ⟨rfl, trivial⟩
    · intro q; have w := w.2 q
      exact z_wk (r_emit_54_ok hm w) ⟨rfl, trivial⟩
/-! compile()V -/
def t_compile : List (Nat × Instr × Nat) := [(0, .aload_n 0, 1), (1, .iconst 0, 1), (2, .putfield 295, 3), (5, .aload_n 0, 1), (6, .iconst 0, 1), (7, .aload_n 0, 1), (8, .getfield 245, 3), (11, .iconst 0, 1), (12, .iconst 0, 1), (13, .invokevirtual 298, 3), (16, .aload_n 0, 1), (17, .getfield 295, 3), (20, .ifCond .le 410, 3), (23, .aload_n 0, 1), (24, .dup, 1), (25, .getfield 295, 3), (28, .iconst 1, 1), (29, .isub, 1), (30, .putfield 295, 3), (33, .aload_n 0, 1), (34, .getfield 130, 3), (37, .aload_n 0, 1), (38, .getfield 295, 3), (41, .iaload, 1), (42, .istore_n 1, 1), (43, .aload_n 0, 1), (44, .getfield 133, 3), (47, .aload_n 0, 1), (48, .getfield 295, 3), (51, .iaload, 1), (52, .istore_n 2, 1), (53, .aload_n 0, 1), (54, .getfield 136, 3), (57, .aload_n 0, 1), (58, .getfield 295, 3), (61, .iaload, 1), (62, .istore_n 3, 1), (63, .aload_n 0, 1), (64, .getfield 139, 3), (67, .aload_n 0, 1), (68, .getfield 295, 3), (71, .iaload, 1), (72, .istore 4, 2), (74, .iload_n 1, 1), (75, .ifCond .ne 11, 3), (78, .aload_n 0, 1), (79, .iload_n 2, 1), (80, .invokevirtual 302, 3), (83, .goto 344, 3), (86, .iload_n 1, 1), (87, .iconst 1, 1), (88, .if_icmp .ne 42, 3), (91, .aload_n 0, 1), (92, .iconst 2, 1), (93, .iconst 0, 1), (94, .iconst 0, 1), (95, .invokevirtual 305, 3), (98, .istore 5, 2), (100, .aload_n 0, 1), (101, .getfield 106, 3), (104, .iload_n 2, 1), (105, .aload_n 0, 1), (106, .getfield 283, 3), (109, .iastore, 1), (110, .aload_n 0, 1), (111, .iconst 2, 1), (112, .iload 5, 2), (114, .iconst 0, 1), (115, .iconst 0, 1), (116, .invokevirtual 298, 3), (119, .aload_n 0, 1), (120, .iconst 0, 1), (121, .iload_n 3, 1), (122, .iconst 0, 1), (123, .iconst 0, 1), (124, .invokevirtual 298, 3), (127, .goto 300, 3), (130, .iload_n 1, 1), (131, .iconst 2, 1), (132, .if_icmp .ne 16, 3), (135, .aload_n 0, 1), (136, .getfield 103, 3), (139, .iload_n 2, 1), (140, .aload_n 0, 1), (141, .getfield 283, 3), (144, .iastore, 1), (145, .goto 282, 3), (148, .iload_n 1, 1), (149, .iconst 3, 1), (150, .if_icmp .ne 14, 3), (153, .aload_n 0, 1), (154, .iconst 3, 1), (155, .iload_n 2, 1), (156, .iconst 0, 1), (157, .invokevirtual 305, 3), (160, .pop, 1), (161, .goto 266, 3), (164, .iload_n 1, 1), (165, .iconst 4, 1), (166, .if_icmp .ne 30, 3), (169, .aload_n 0, 1), (170, .bipush 11, 2), (172, .iconst 0, 1), (173, .iconst 0, 1), (174, .invokevirtual 305, 3), (177, .pop, 1), (178, .aload_n 0, 1), (179, .iload_n 3, 1), (180, .putfield 289, 3), (183, .aload_n 0, 1), (184, .getfield 106, 3), (187, .iload_n 2, 1), (188, .aload_n 0, 1), (189, .getfield 283, 3), (192, .iastore, 1), (193, .goto 234, 3), (196, .iload_n 1, 1), (197, .iconst 5, 1), (198, .if_icmp .ne 62, 3), (201, .aload_n 0, 1), (202, .aload_n 0, 1), (203, .getfield 62, 3), (206, .iload_n 2, 1), (207, .iaload, 1), (208, .ifCond .ge 8, 3), (211, .bipush 6, 2), (213, .goto 5, 3), (216, .bipush 8, 2), (218, .iload_n 2, 1), (219, .iload_n 3, 1), (220, .iconst (-1), 1), (221, .invokevirtual 298, 3), (224, .iconst 0, 1), (225, .istore 5, 2), (227, .iload 5, 2), (229, .aload_n 0, 1), (230, .getfield 59, 3), (233, .iload_n 2, 1), (234, .iaload, 1), (235, .if_icmp .ge 22, 3), (238, .aload_n 0, 1), (239, .iconst 0, 1), (240, .aload_n 0, 1), (241, .getfield 53, 3), (244, .iload_n 2, 1), (245, .iaload, 1), (246, .iconst 0, 1), (247, .iconst 0, 1), (248, .invokevirtual 298, 3), (251, .iinc 5 1, 3), (254, .goto (-27), 3), (257, .goto 170, 3), (260, .iload_n 1, 1), (261, .bipush 6, 2), (263, .if_icmp .ne 81, 3), (266, .aload_n 0, 1), (267, .iconst 1, 1), (268, .iconst 0, 1), (269, .iconst 0, 1), (270, .invokevirtual 305, 3), (273, .istore 5, 2), (275, .aload_n 0, 1), (276, .getfield 308, 3), (279, .istore 6, 2), (281, .aload_n 0, 1), (282, .dup, 1), (283, .getfield 308, 3), (286, .iconst 1, 1), (287, .iadd, 1), (288, .putfield 308, 3), (291, .aload_n 0, 1), (292, .iconst 4, 1), (293, .iload 6, 2), (295, .iconst 0, 1), (296, .invokevirtual 305, 3), (299, .pop, 1), (300, .aload_n 0, 1), (301, .getfield 124, 3), (304, .iload 6, 2), (306, .aload_n 0, 1), (307, .getfield 289, 3), (310, .iastore, 1), (311, .aload_n 0, 1), (312, .iload 6, 2), (314, .putfield 289, 3), (317, .aload_n 0, 1), (318, .bipush 7, 2), (320, .iload 5, 2), (322, .iload 6, 2), (324, .iload_n 3, 1), (325, .invokevirtual 298, 3), (328, .aload_n 0, 1), (329, .iconst 0, 1), (330, .aload_n 0, 1), (331, .getfield 53, 3), (334, .iload_n 2, 1), (335, .iaload, 1), (336, .iconst 0, 1), (337, .iconst 0, 1), (338, .invokevirtual 298, 3), (341, .goto 86, 3), (344, .iload_n 1, 1), (345, .bipush 7, 2), (347, .if_icmp .ne 55, 3), (350, .aload_n 0, 1), (351, .aload_n 0, 1), (352, .getfield 124, 3), (355, .iload_n 3, 1), (356, .iaload, 1), (357, .putfield 289, 3), (360, .aload_n 0, 1), (361, .iconst 5, 1), (362, .iload_n 3, 1), (363, .iconst 0, 1), (364, .invokevirtual 305, 3), (367, .pop, 1), (368, .aload_n 0, 1), (369, .iconst 2, 1), (370, .iload_n 2, 1), (371, .iconst 0, 1), (372, .invokevirtual 305, 3), (375, .pop, 1), (376, .aload_n 0, 1), (377, .iload_n 2, 1), (378, .iload_n 2, 1), (379, .iconst 1, 1), (380, .iadd, 1), (381, .aload_n 0, 1), (382, .getfield 283, 3), (385, .iload 4, 2), (387, .iconst 1, 1), (388, .if_icmp .ne 7, 3), (391, .iconst 1, 1), (392, .goto 4, 3), (395, .iconst 0, 1), (396, .invokevirtual 311, 3), (399, .goto 28, 3), (402, .iload_n 1, 1), (403, .bipush 8, 2), (405, .if_icmp .ne 14, 3), (408, .aload_n 0, 1), (409, .iload_n 2, 1), (410, .iload_n 3, 1), (411, .iload 4, 2), (413, .invokevirtual 315, 3), (416, .goto 11, 3), (419, .aload_n 0, 1), (420, .iconst 1, 1), (421, .iconst 0, 1), (422, .iconst 0, 1), (423, .invokevirtual 305, 3), (426, .pop, 1), (427, .goto (-411), 3), (430, .return_, 1)]
set_option maxRecDepth 100000 in
theorem dt_compile : q_ck k_compile t_compile = true := by decide +kernel
def r_compile_427 (m : Nat) (h0 : qH) (d : Nat) (B : qB) (Q : qO → qB → Prop) : Prop := qZ m h0 (d + 1) k_compile 16 [some (.ref m), none, none, none, none, none, none] [] B Q
theorem r_compile_427_ok {m : Nat} {h0 : qH} {d : Nat} {B : qB} {Q : qO → qB → Prop} (hm : m + 100 < 1000000000) (w : r_compile_427 m h0 d B Q) : qZ m h0 (d + 1) k_compile 427 [some (.ref m), none, none, none, none, none, none] [] B Q := by
  unfold r_compile_427 at w
  refine z_goto (t := 16) (ck_at dt_compile 252 rfl) rfl ?_
  exact z_wk w ⟨rfl, trivial⟩
def r_compile_426 (m : Nat) (h0 : qH) (d : Nat) (s0 : Int) (B : qB) (Q : qO → qB → Prop) : Prop := r_compile_427 m h0 d B Q
theorem r_compile_426_ok {m : Nat} {h0 : qH} {d : Nat} {s0 : Int} {B : qB} {Q : qO → qB → Prop} (hm : m + 100 < 1000000000) (w : r_compile_426 m h0 d s0 B Q) : qZ m h0 (d + 1) k_compile 426 [some (.ref m), none, none, none, none, none, none] [iv s0] B Q := by
  unfold r_compile_426 at w
  refine z_op (ck_at dt_compile 251 rfl) rfl rfl ?_
  exact z_wk (r_compile_427_ok hm w) ⟨rfl, trivial⟩
def r_compile_416 (m : Nat) (h0 : qH) (d : Nat) (B : qB) (Q : qO → qB → Prop) : Prop := r_compile_427 m h0 d B Q
theorem r_compile_416_ok {m : Nat} {h0 : qH} {d : Nat} {B : qB} {Q : qO → qB → Prop} (hm : m + 100 < 1000000000) (w : r_compile_416 m h0 d B Q) : qZ m h0 (d + 1) k_compile 416 [some (.ref m), none, none, none, none, none, none] [] B Q := by
  unfold r_compile_416 at w
  refine z_goto (t := 427) (ck_at dt_compile 245 rfl) rfl ?_
  exact z_wk (r_compile_427_ok hm w) ⟨rfl, trivial⟩
def r_compile_399 (m : Nat) (h0 : qH) (d : Nat) (B : qB) (Q : qO → qB → Prop) : Prop := r_compile_427 m h0 d B Q
theorem r_compile_399_ok {m : Nat} {h0 : qH} {d : Nat} {B : qB} {Q : qO → qB → Prop} (hm : m + 100 < 1000000000) (w : r_compile_399 m h0 d B Q) : qZ m h0 (d + 1) k_compile 399 [some (.ref m), none, none, none, none, none, none] [] B Q := by
  unfold r_compile_399 at w
  refine z_goto (t := 427) (ck_at dt_compile 236 rfl) rfl ?_
  exact z_wk (r_compile_427_ok hm w) ⟨rfl, trivial⟩
def r_compile_396 (m : Nat) (h0 : qH) (d : Nat) (s1 s2 s3 s4 : Int) (B : qB) (Q : qO → qB → Prop) : Prop := qZ m h0 d k_split 0 [some (.ref m), some (iv s1), some (iv s2), some (iv s3), some (iv s4)] [] B (fun o B' => o = .inl none ∧ r_compile_399 m h0 d B' Q)
theorem r_compile_396_ok {m : Nat} {h0 : qH} {d : Nat} {s1 s2 s3 s4 : Int} {B : qB} {Q : qO → qB → Prop} (hm : m + 100 < 1000000000) (w : r_compile_396 m h0 d s1 s2 s3 s4 B Q) : qZ m h0 (d + 1) k_compile 396 [some (.ref m), none, none, none, none, none, none] [iv s4, iv s3, iv s2, iv s1, .ref m] B Q := by
  unfold r_compile_396 at w
  refine z_virt (k' := k_split) (n := 0) (as := [iv s1, iv s2, iv s3, iv s4]) (r := []) (ck_at dt_compile 235 rfl) own_compile (mm_at 34 rfl) vk_split rfl nl_split rfl rfl rfl rfl ?_
  exact w.mono (Nat.le_refl _) (fun o B' ⟨ho, w⟩ => ⟨none, ho, z_wk (r_compile_399_ok hm w) ⟨rfl, trivial⟩⟩)
def r_compile_375 (m : Nat) (h0 : qH) (d : Nat) (x2 x4 s0 : Int) (B : qB) (Q : qO → qB → Prop) : Prop := R32 x4 ∧ (¬ x4 = 1 → r_compile_396 m h0 d x2 (x2 + 1) (B 46 0) 0 B Q) ∧ (x4 = 1 → r_compile_396 m h0 d x2 (x2 + 1) (B 46 0) 1 B Q)
theorem r_compile_375_ok {m : Nat} {h0 : qH} {d : Nat} {x2 x4 s0 : Int} {B : qB} {Q : qO → qB → Prop} (hm : m + 100 < 1000000000) (w : r_compile_375 m h0 d x2 x4 s0 B Q) : qZ m h0 (d + 1) k_compile 375 [some (.ref m), none, some (iv x2), none, some (iv x4), none, none] [iv s0] B Q := by
  unfold r_compile_375 at w
  obtain ⟨p1, w⟩ := w
  refine z_op (ck_at dt_compile 221 rfl) rfl rfl ?_
  refine z_ldk (ok := q_isA) (n := 0) (ck_at dt_compile 222 rfl) rfl rfl (fun _ => rfl) rfl rfl ?_
  refine z_ldk (ok := q_isI) (n := 2) (ck_at dt_compile 223 rfl) rfl rfl (fun _ => rfl) rfl rfl ?_
  refine z_ldk (ok := q_isI) (n := 2) (ck_at dt_compile 224 rfl) rfl rfl (fun _ => rfl) rfl rfl ?_
  refine z_op (ck_at dt_compile 225 rfl) rfl (o_const _) ?_
  refine z_op (ck_at dt_compile 226 rfl) rfl o_iadd ?_
  refine z_ldk (ok := q_isA) (n := 0) (ck_at dt_compile 227 rfl) rfl rfl (fun _ => rfl) rfl rfl ?_
  refine z_getI (j := 46) (ck_at dt_compile 228 rfl) own_compile (mf_at 61 rfl) (by decide) rfl ?_
  refine z_ldk (ok := q_isI) (n := 4) (ck_at dt_compile 229 rfl) rfl rfl (fun _ => rfl) rfl rfl ?_
  refine z_op (ck_at dt_compile 230 rfl) rfl (o_const _) ?_
  refine z_icmp (t := 395) (ck_at dt_compile 231 rfl) rfl p1 ⟨by decide, by decide⟩ ?_ ?_
  · intro q; have w := w.1 q
    refine z_op (ck_at dt_compile 234 rfl) rfl (o_const _) ?_
    exact z_wk (r_compile_396_ok hm w) ⟨rfl, trivial⟩
  · intro q; have w := w.2 q
    refine z_op (ck_at dt_compile 232 rfl) rfl (o_const _) ?_
    refine z_goto (t := 396) (ck_at dt_compile 233 rfl) rfl ?_
    exact z_wk (r_compile_396_ok hm w) ⟨rfl, trivial⟩
def r_compile_367 (m : Nat) (h0 : qH) (d : Nat) (x2 x4 s0 : Int) (B : qB) (Q : qO → qB → Prop) : Prop := qZ m h0 d k_emit 0 [some (.ref m), some (iv 2), some (iv x2), some (iv 0), none] [] B (fun o B' => ∃ v : Int, o = .inl (some (iv v)) ∧ r_compile_375 m h0 d x2 x4 v B' Q)
theorem r_compile_367_ok {m : Nat} {h0 : qH} {d : Nat} {x2 x4 s0 : Int} {B : qB} {Q : qO → qB → Prop} (hm : m + 100 < 1000000000) (w : r_compile_367 m h0 d x2 x4 s0 B Q) : qZ m h0 (d + 1) k_compile 367 [some (.ref m), none, some (iv x2), none, some (iv x4), none, none] [iv s0] B Q := by
  unfold r_compile_367 at w
  refine z_op (ck_at dt_compile 215 rfl) rfl rfl ?_
  refine z_ldk (ok := q_isA) (n := 0) (ck_at dt_compile 216 rfl) rfl rfl (fun _ => rfl) rfl rfl ?_
  refine z_op (ck_at dt_compile 217 rfl) rfl (o_const _) ?_
  refine z_ldk (ok := q_isI) (n := 2) (ck_at dt_compile 218 rfl) rfl rfl (fun _ => rfl) rfl rfl ?_
  refine z_op (ck_at dt_compile 219 rfl) rfl (o_const _) ?_
  refine z_virt (k' := k_emit) (n := 1) (as := [iv 2, iv x2, iv 0]) (r := []) (ck_at dt_compile 220 rfl) own_compile (mm_at 30 rfl) vk_emit rfl nl_emit rfl rfl rfl rfl ?_
  exact w.mono (Nat.le_refl _) (fun o B' ⟨v, ho, w⟩ => ⟨some (iv v), ho, z_wk (r_compile_375_ok hm w) ⟨rfl, ⟨rfl, ⟨rfl, trivial⟩⟩⟩⟩)
def r_compile_341 (m : Nat) (h0 : qH) (d : Nat) (B : qB) (Q : qO → qB → Prop) : Prop := r_compile_427 m h0 d B Q
theorem r_compile_341_ok {m : Nat} {h0 : qH} {d : Nat} {B : qB} {Q : qO → qB → Prop} (hm : m + 100 < 1000000000) (w : r_compile_341 m h0 d B Q) : qZ m h0 (d + 1) k_compile 341 [some (.ref m), none, none, none, none, none, none] [] B Q := by
  unfold r_compile_341 at w
  refine z_goto (t := 427) (ck_at dt_compile 200 rfl) rfl ?_
  exact z_wk (r_compile_427_ok hm w) ⟨rfl, trivial⟩
def r_compile_328 (m : Nat) (h0 : qH) (d : Nat) (x2 : Int) (B : qB) (Q : qO → qB → Prop) : Prop := 0 ≤ x2 ∧ x2 < 3000 ∧ qZ m h0 d k_later 0 [some (.ref m), some (iv 0), some (iv (B 18 x2)), some (iv 0), some (iv 0)] [] B (fun o B' => o = .inl none ∧ r_compile_341 m h0 d B' Q)
theorem r_compile_328_ok {m : Nat} {h0 : qH} {d : Nat} {x2 : Int} {B : qB} {Q : qO → qB → Prop} (hm : m + 100 < 1000000000) (w : r_compile_328 m h0 d x2 B Q) : qZ m h0 (d + 1) k_compile 328 [some (.ref m), none, some (iv x2), none, none, none, none] [] B Q := by
  unfold r_compile_328 at w
  obtain ⟨p1, p2, w⟩ := w
  refine z_ldk (ok := q_isA) (n := 0) (ck_at dt_compile 191 rfl) rfl rfl (fun _ => rfl) rfl rfl ?_
  refine z_op (ck_at dt_compile 192 rfl) rfl (o_const _) ?_
  refine z_ldk (ok := q_isA) (n := 0) (ck_at dt_compile 193 rfl) rfl rfl (fun _ => rfl) rfl rfl ?_
  refine z_getR (j := 18) (a := 13) (ck_at dt_compile 194 rfl) own_compile (mf_at 14 rfl) (by decide) rfl rfl ?_
  refine z_ldk (ok := q_isI) (n := 2) (ck_at dt_compile 195 rfl) rfl rfl (fun _ => rfl) rfl rfl ?_
  refine z_iald (j := 18) (n := 3000) (ck_at dt_compile 196 rfl) rfl rfl rfl p1 p2 ?_
  refine z_op (ck_at dt_compile 197 rfl) rfl (o_const _) ?_
  refine z_op (ck_at dt_compile 198 rfl) rfl (o_const _) ?_
  refine z_virt (k' := k_later) (n := 0) (as := [iv 0, iv (B 18 x2), iv 0, iv 0]) (r := []) (ck_at dt_compile 199 rfl) own_compile (mm_at 32 rfl) vk_later rfl nl_later rfl rfl rfl rfl ?_
  exact w.mono (Nat.le_refl _) (fun o B' ⟨ho, w⟩ => ⟨none, ho, z_wk (r_compile_341_ok hm w) ⟨rfl, trivial⟩⟩)
def r_compile_299 (m : Nat) (h0 : qH) (d : Nat) (x2 x3 x5 x6 s0 : Int) (B : qB) (Q : qO → qB → Prop) : Prop := 0 ≤ x6 ∧ x6 < 800 ∧ qZ m h0 d k_later 0 [some (.ref m), some (iv 7), some (iv x5), some (iv x6), some (iv x3)] [] (u2 (u2 B 53 x6 (B 55 0)) 55 0 x6) (fun o B' => o = .inl none ∧ r_compile_328 m h0 d x2 B' Q)
theorem r_compile_299_ok {m : Nat} {h0 : qH} {d : Nat} {x2 x3 x5 x6 s0 : Int} {B : qB} {Q : qO → qB → Prop} (hm : m + 100 < 1000000000) (w : r_compile_299 m h0 d x2 x3 x5 x6 s0 B Q) : qZ m h0 (d + 1) k_compile 299 [some (.ref m), none, some (iv x2), some (iv x3), none, some (iv x5), some (iv x6)] [iv s0] B Q := by
  unfold r_compile_299 at w
  obtain ⟨p1, p2, w⟩ := w
  refine z_op (ck_at dt_compile 175 rfl) rfl rfl ?_
  refine z_ldk (ok := q_isA) (n := 0) (ck_at dt_compile 176 rfl) rfl rfl (fun _ => rfl) rfl rfl ?_
  refine z_getR (j := 53) (a := 36) (ck_at dt_compile 177 rfl) own_compile (mf_at 37 rfl) (by decide) rfl rfl ?_
  refine z_ldk (ok := q_isI) (n := 6) (ck_at dt_compile 178 rfl) rfl rfl (fun _ => rfl) rfl rfl ?_
  refine z_ldk (ok := q_isA) (n := 0) (ck_at dt_compile 179 rfl) rfl rfl (fun _ => rfl) rfl rfl ?_
  refine z_getI (j := 55) (ck_at dt_compile 180 rfl) own_compile (mf_at 65 rfl) (by decide) rfl ?_
  refine z_iast (j := 53) (n := 800) hm (ck_at dt_compile 181 rfl) rfl rfl rfl p1 p2 ?_
  refine z_ldk (ok := q_isA) (n := 0) (ck_at dt_compile 182 rfl) rfl rfl (fun _ => rfl) rfl rfl ?_
  refine z_ldk (ok := q_isI) (n := 6) (ck_at dt_compile 183 rfl) rfl rfl (fun _ => rfl) rfl rfl ?_
  refine z_putI (j := 55) hm (ck_at dt_compile 184 rfl) own_compile (mf_at 65 rfl) (by decide) rfl rfl rfl ?_
  refine z_ldk (ok := q_isA) (n := 0) (ck_at dt_compile 185 rfl) rfl rfl (fun _ => rfl) rfl rfl ?_
  refine z_op (ck_at dt_compile 186 rfl) rfl (o_bipush _ (by decide)) ?_
  refine z_ldk (ok := q_isI) (n := 5) (ck_at dt_compile 187 rfl) rfl rfl (fun _ => rfl) rfl rfl ?_
  refine z_ldk (ok := q_isI) (n := 6) (ck_at dt_compile 188 rfl) rfl rfl (fun _ => rfl) rfl rfl ?_
  refine z_ldk (ok := q_isI) (n := 3) (ck_at dt_compile 189 rfl) rfl rfl (fun _ => rfl) rfl rfl ?_
  refine z_virt (k' := k_later) (n := 0) (as := [iv 7, iv x5, iv x6, iv x3]) (r := []) (ck_at dt_compile 190 rfl) own_compile (mm_at 32 rfl) vk_later rfl nl_later rfl rfl rfl rfl ?_
  exact w.mono (Nat.le_refl _) (fun o B' ⟨ho, w⟩ => ⟨none, ho, z_wk (r_compile_328_ok hm w) ⟨rfl, ⟨rfl, trivial⟩⟩⟩)
def r_compile_273 (m : Nat) (h0 : qH) (d : Nat) (x2 x3 s0 : Int) (B : qB) (Q : qO → qB → Prop) : Prop := qZ m h0 d k_emit 0 [some (.ref m), some (iv 4), some (iv (B 47 0)), some (iv 0), none] [] (u2 B 47 0 ((B 47 0) + 1)) (fun o B' => ∃ v : Int, o = .inl (some (iv v)) ∧ r_compile_299 m h0 d x2 x3 s0 (B 47 0) v B' Q)
theorem r_compile_273_ok {m : Nat} {h0 : qH} {d : Nat} {x2 x3 s0 : Int} {B : qB} {Q : qO → qB → Prop} (hm : m + 100 < 1000000000) (w : r_compile_273 m h0 d x2 x3 s0 B Q) : qZ m h0 (d + 1) k_compile 273 [some (.ref m), none, some (iv x2), some (iv x3), none, none, none] [iv s0] B Q := by
  unfold r_compile_273 at w
  refine z_st1 (ok := q_isI) (n := 5) (L' := [some (.ref m), none, some (iv x2), some (iv x3), none, some (iv s0), none]) (ck_at dt_compile 160 rfl) rfl (fun _ => rfl) (fun _ _ => rfl) rfl nl_compile (by decide) trivial rfl ?_
  refine z_ldk (ok := q_isA) (n := 0) (ck_at dt_compile 161 rfl) rfl rfl (fun _ => rfl) rfl rfl ?_
  refine z_getI (j := 47) (ck_at dt_compile 162 rfl) own_compile (mf_at 62 rfl) (by decide) rfl ?_
  refine z_st1 (ok := q_isI) (n := 6) (L' := [some (.ref m), none, some (iv x2), some (iv x3), none, some (iv s0), some (iv (B 47 0))]) (ck_at dt_compile 163 rfl) rfl (fun _ => rfl) (fun _ _ => rfl) rfl nl_compile (by decide) rfl rfl ?_
  refine z_ldk (ok := q_isA) (n := 0) (ck_at dt_compile 164 rfl) rfl rfl (fun _ => rfl) rfl rfl ?_
  refine z_op (ck_at dt_compile 165 rfl) rfl rfl ?_
  refine z_getI (j := 47) (ck_at dt_compile 166 rfl) own_compile (mf_at 62 rfl) (by decide) rfl ?_
  refine z_op (ck_at dt_compile 167 rfl) rfl (o_const _) ?_
  refine z_op (ck_at dt_compile 168 rfl) rfl o_iadd ?_
  refine z_putI (j := 47) hm (ck_at dt_compile 169 rfl) own_compile (mf_at 62 rfl) (by decide) rfl rfl rfl ?_
  refine z_ldk (ok := q_isA) (n := 0) (ck_at dt_compile 170 rfl) rfl rfl (fun _ => rfl) rfl rfl ?_
  refine z_op (ck_at dt_compile 171 rfl) rfl (o_const _) ?_
  refine z_ldk (ok := q_isI) (n := 6) (ck_at dt_compile 172 rfl) rfl rfl (fun _ => rfl) rfl rfl ?_
  refine z_op (ck_at dt_compile 173 rfl) rfl (o_const _) ?_
  refine z_virt (k' := k_emit) (n := 1) (as := [iv 4, iv (B 47 0), iv 0]) (r := []) (ck_at dt_compile 174 rfl) own_compile (mm_at 30 rfl) vk_emit rfl nl_emit rfl rfl rfl rfl ?_
  exact w.mono (Nat.le_refl _) (fun o B' ⟨v, ho, w⟩ => ⟨some (iv v), ho, z_wk (r_compile_299_ok hm w) ⟨rfl, ⟨rfl, ⟨rfl, ⟨rfl, ⟨rfl, trivial⟩⟩⟩⟩⟩⟩)
def r_compile_251 (m : Nat) (h0 : qH) (d : Nat) (x2 x5 : Int) (B : qB) (Q : qO → qB → Prop) : Prop := qZ m h0 (d + 1) k_compile 227 [some (.ref m), none, some (iv x2), none, none, some (iv (x5 + 1)), none] [] B Q
theorem r_compile_251_ok {m : Nat} {h0 : qH} {d : Nat} {x2 x5 : Int} {B : qB} {Q : qO → qB → Prop} (hm : m + 100 < 1000000000) (w : r_compile_251 m h0 d x2 x5 B Q) : qZ m h0 (d + 1) k_compile 251 [some (.ref m), none, some (iv x2), none, none, some (iv x5), none] [] B Q := by
  unfold r_compile_251 at w
  refine z_iinc (n := 5) (L' := [some (.ref m), none, some (iv x2), none, none, some (iv (x5 + 1)), none]) (ck_at dt_compile 149 rfl) rfl nl_compile (by decide) trivial rfl ?_
  refine z_goto (t := 227) (ck_at dt_compile 150 rfl) rfl ?_
  exact z_wk w ⟨rfl, ⟨rfl, ⟨rfl, trivial⟩⟩⟩
def r_compile_227 (m : Nat) (h0 : qH) (d : Nat) (x2 x5 : Int) (B : qB) (Q : qO → qB → Prop) : Prop := 0 ≤ x2 ∧ x2 < 3000 ∧ R32 x5 ∧ R32 (B 20 x2) ∧ (x5 ≥ B 20 x2 → r_compile_427 m h0 d B Q) ∧ (x5 < B 20 x2 → qZ m h0 d k_later 0 [some (.ref m), some (iv 0), some (iv (B 18 x2)), some (iv 0), some (iv 0)] [] B (fun o B' => o = .inl none ∧ r_compile_251 m h0 d x2 x5 B' Q))
theorem r_compile_227_ok {m : Nat} {h0 : qH} {d : Nat} {x2 x5 : Int} {B : qB} {Q : qO → qB → Prop} (hm : m + 100 < 1000000000) (w : r_compile_227 m h0 d x2 x5 B Q) : qZ m h0 (d + 1) k_compile 227 [some (.ref m), none, some (iv x2), none, none, some (iv x5), none] [] B Q := by
  unfold r_compile_227 at w
  obtain ⟨p1, p2, p3, p4, w⟩ := w
  refine z_ldk (ok := q_isI) (n := 5) (ck_at dt_compile 134 rfl) rfl rfl (fun _ => rfl) rfl rfl ?_
  refine z_ldk (ok := q_isA) (n := 0) (ck_at dt_compile 135 rfl) rfl rfl (fun _ => rfl) rfl rfl ?_
  refine z_getR (j := 20) (a := 15) (ck_at dt_compile 136 rfl) own_compile (mf_at 16 rfl) (by decide) rfl rfl ?_
  refine z_ldk (ok := q_isI) (n := 2) (ck_at dt_compile 137 rfl) rfl rfl (fun _ => rfl) rfl rfl ?_
  refine z_iald (j := 20) (n := 3000) (ck_at dt_compile 138 rfl) rfl rfl rfl p1 p2 ?_
  refine z_icmp (t := 257) (ck_at dt_compile 139 rfl) rfl p3 p4 ?_ ?_
  · intro q; have w := w.1 q
    refine z_goto (t := 427) (ck_at dt_compile 151 rfl) rfl ?_
    exact z_wk (r_compile_427_ok hm w) ⟨rfl, trivial⟩
  · intro q; have w := w.2 q
    refine z_ldk (ok := q_isA) (n := 0) (ck_at dt_compile 140 rfl) rfl rfl (fun _ => rfl) rfl rfl ?_
    refine z_op (ck_at dt_compile 141 rfl) rfl (o_const _) ?_
    refine z_ldk (ok := q_isA) (n := 0) (ck_at dt_compile 142 rfl) rfl rfl (fun _ => rfl) rfl rfl ?_
    refine z_getR (j := 18) (a := 13) (ck_at dt_compile 143 rfl) own_compile (mf_at 14 rfl) (by decide) rfl rfl ?_
    refine z_ldk (ok := q_isI) (n := 2) (ck_at dt_compile 144 rfl) rfl rfl (fun _ => rfl) rfl rfl ?_
    refine z_iald (j := 18) (n := 3000) (ck_at dt_compile 145 rfl) rfl rfl rfl p1 p2 ?_
    refine z_op (ck_at dt_compile 146 rfl) rfl (o_const _) ?_
    refine z_op (ck_at dt_compile 147 rfl) rfl (o_const _) ?_
    refine z_virt (k' := k_later) (n := 0) (as := [iv 0, iv (B 18 x2), iv 0, iv 0]) (r := []) (ck_at dt_compile 148 rfl) own_compile (mm_at 32 rfl) vk_later rfl nl_later rfl rfl rfl rfl ?_
    exact w.mono (Nat.le_refl _) (fun o B' ⟨ho, w⟩ => ⟨none, ho, z_wk (r_compile_251_ok hm w) ⟨rfl, ⟨rfl, ⟨rfl, trivial⟩⟩⟩⟩)
def r_compile_224 (m : Nat) (h0 : qH) (d : Nat) (x2 : Int) (B : qB) (Q : qO → qB → Prop) : Prop := qZ m h0 (d + 1) k_compile 227 [some (.ref m), none, some (iv x2), none, none, some (iv 0), none] [] B Q
theorem r_compile_224_ok {m : Nat} {h0 : qH} {d : Nat} {x2 : Int} {B : qB} {Q : qO → qB → Prop} (hm : m + 100 < 1000000000) (w : r_compile_224 m h0 d x2 B Q) : qZ m h0 (d + 1) k_compile 224 [some (.ref m), none, some (iv x2), none, none, none, none] [] B Q := by
  unfold r_compile_224 at w
  refine z_op (ck_at dt_compile 132 rfl) rfl (o_const _) ?_
  refine z_st1 (ok := q_isI) (n := 5) (L' := [some (.ref m), none, some (iv x2), none, none, some (iv 0), none]) (ck_at dt_compile 133 rfl) rfl (fun _ => rfl) (fun _ _ => rfl) rfl nl_compile (by decide) trivial rfl ?_
  exact z_wk w ⟨rfl, ⟨rfl, ⟨rfl, trivial⟩⟩⟩
def r_compile_218 (m : Nat) (h0 : qH) (d : Nat) (x2 x3 s1 : Int) (B : qB) (Q : qO → qB → Prop) : Prop := qZ m h0 d k_later 0 [some (.ref m), some (iv s1), some (iv x2), some (iv x3), some (iv (-1))] [] B (fun o B' => o = .inl none ∧ r_compile_224 m h0 d x2 B' Q)
theorem r_compile_218_ok {m : Nat} {h0 : qH} {d : Nat} {x2 x3 s1 : Int} {B : qB} {Q : qO → qB → Prop} (hm : m + 100 < 1000000000) (w : r_compile_218 m h0 d x2 x3 s1 B Q) : qZ m h0 (d + 1) k_compile 218 [some (.ref m), none, some (iv x2), some (iv x3), none, none, none] [iv s1, .ref m] B Q := by
  unfold r_compile_218 at w
  refine z_ldk (ok := q_isI) (n := 2) (ck_at dt_compile 128 rfl) rfl rfl (fun _ => rfl) rfl rfl ?_
  refine z_ldk (ok := q_isI) (n := 3) (ck_at dt_compile 129 rfl) rfl rfl (fun _ => rfl) rfl rfl ?_
  refine z_op (ck_at dt_compile 130 rfl) rfl (o_const _) ?_
  refine z_virt (k' := k_later) (n := 0) (as := [iv s1, iv x2, iv x3, iv (-1)]) (r := []) (ck_at dt_compile 131 rfl) own_compile (mm_at 32 rfl) vk_later rfl nl_later rfl rfl rfl rfl ?_
  exact w.mono (Nat.le_refl _) (fun o B' ⟨ho, w⟩ => ⟨none, ho, z_wk (r_compile_224_ok hm w) ⟨rfl, ⟨rfl, trivial⟩⟩⟩)
def r_compile_177 (m : Nat) (h0 : qH) (d : Nat) (x2 x3 s0 : Int) (B : qB) (Q : qO → qB → Prop) : Prop := 0 ≤ x2 ∧ x2 < 6000 ∧ r_compile_427 m h0 d (u2 (u2 B 55 0 x3) 44 x2 (B 46 0)) Q
theorem r_compile_177_ok {m : Nat} {h0 : qH} {d : Nat} {x2 x3 s0 : Int} {B : qB} {Q : qO → qB → Prop} (hm : m + 100 < 1000000000) (w : r_compile_177 m h0 d x2 x3 s0 B Q) : qZ m h0 (d + 1) k_compile 177 [some (.ref m), none, some (iv x2), some (iv x3), none, none, none] [iv s0] B Q := by
  unfold r_compile_177 at w
  obtain ⟨p1, p2, w⟩ := w
  refine z_op (ck_at dt_compile 105 rfl) rfl rfl ?_
  refine z_ldk (ok := q_isA) (n := 0) (ck_at dt_compile 106 rfl) rfl rfl (fun _ => rfl) rfl rfl ?_
  refine z_ldk (ok := q_isI) (n := 3) (ck_at dt_compile 107 rfl) rfl rfl (fun _ => rfl) rfl rfl ?_
  refine z_putI (j := 55) hm (ck_at dt_compile 108 rfl) own_compile (mf_at 65 rfl) (by decide) rfl rfl rfl ?_
  refine z_ldk (ok := q_isA) (n := 0) (ck_at dt_compile 109 rfl) rfl rfl (fun _ => rfl) rfl rfl ?_
  refine z_getR (j := 44) (a := 30) (ck_at dt_compile 110 rfl) own_compile (mf_at 31 rfl) (by decide) rfl rfl ?_
  refine z_ldk (ok := q_isI) (n := 2) (ck_at dt_compile 111 rfl) rfl rfl (fun _ => rfl) rfl rfl ?_
  refine z_ldk (ok := q_isA) (n := 0) (ck_at dt_compile 112 rfl) rfl rfl (fun _ => rfl) rfl rfl ?_
  refine z_getI (j := 46) (ck_at dt_compile 113 rfl) own_compile (mf_at 61 rfl) (by decide) rfl ?_
  refine z_iast (j := 44) (n := 6000) hm (ck_at dt_compile 114 rfl) rfl rfl rfl p1 p2 ?_
  refine z_goto (t := 427) (ck_at dt_compile 115 rfl) rfl ?_
  exact z_wk (r_compile_427_ok hm w) ⟨rfl, trivial⟩
def r_compile_160 (m : Nat) (h0 : qH) (d : Nat) (s0 : Int) (B : qB) (Q : qO → qB → Prop) : Prop := r_compile_427 m h0 d B Q
theorem r_compile_160_ok {m : Nat} {h0 : qH} {d : Nat} {s0 : Int} {B : qB} {Q : qO → qB → Prop} (hm : m + 100 < 1000000000) (w : r_compile_160 m h0 d s0 B Q) : qZ m h0 (d + 1) k_compile 160 [some (.ref m), none, none, none, none, none, none] [iv s0] B Q := by
  unfold r_compile_160 at w
  refine z_op (ck_at dt_compile 95 rfl) rfl rfl ?_
  refine z_goto (t := 427) (ck_at dt_compile 96 rfl) rfl ?_
  exact z_wk (r_compile_427_ok hm w) ⟨rfl, trivial⟩
def r_compile_127 (m : Nat) (h0 : qH) (d : Nat) (B : qB) (Q : qO → qB → Prop) : Prop := r_compile_427 m h0 d B Q
theorem r_compile_127_ok {m : Nat} {h0 : qH} {d : Nat} {B : qB} {Q : qO → qB → Prop} (hm : m + 100 < 1000000000) (w : r_compile_127 m h0 d B Q) : qZ m h0 (d + 1) k_compile 127 [some (.ref m), none, none, none, none, none, none] [] B Q := by
  unfold r_compile_127 at w
  refine z_goto (t := 427) (ck_at dt_compile 76 rfl) rfl ?_
  exact z_wk (r_compile_427_ok hm w) ⟨rfl, trivial⟩
def r_compile_119 (m : Nat) (h0 : qH) (d : Nat) (x3 : Int) (B : qB) (Q : qO → qB → Prop) : Prop := qZ m h0 d k_later 0 [some (.ref m), some (iv 0), some (iv x3), some (iv 0), some (iv 0)] [] B (fun o B' => o = .inl none ∧ r_compile_127 m h0 d B' Q)
theorem r_compile_119_ok {m : Nat} {h0 : qH} {d : Nat} {x3 : Int} {B : qB} {Q : qO → qB → Prop} (hm : m + 100 < 1000000000) (w : r_compile_119 m h0 d x3 B Q) : qZ m h0 (d + 1) k_compile 119 [some (.ref m), none, none, some (iv x3), none, none, none] [] B Q := by
  unfold r_compile_119 at w
  refine z_ldk (ok := q_isA) (n := 0) (ck_at dt_compile 70 rfl) rfl rfl (fun _ => rfl) rfl rfl ?_
  refine z_op (ck_at dt_compile 71 rfl) rfl (o_const _) ?_
  refine z_ldk (ok := q_isI) (n := 3) (ck_at dt_compile 72 rfl) rfl rfl (fun _ => rfl) rfl rfl ?_
  refine z_op (ck_at dt_compile 73 rfl) rfl (o_const _) ?_
  refine z_op (ck_at dt_compile 74 rfl) rfl (o_const _) ?_
  refine z_virt (k' := k_later) (n := 0) (as := [iv 0, iv x3, iv 0, iv 0]) (r := []) (ck_at dt_compile 75 rfl) own_compile (mm_at 32 rfl) vk_later rfl nl_later rfl rfl rfl rfl ?_
  exact w.mono (Nat.le_refl _) (fun o B' ⟨ho, w⟩ => ⟨none, ho, z_wk (r_compile_127_ok hm w) ⟨rfl, trivial⟩⟩)
def r_compile_98 (m : Nat) (h0 : qH) (d : Nat) (x2 x3 s0 : Int) (B : qB) (Q : qO → qB → Prop) : Prop := 0 ≤ x2 ∧ x2 < 6000 ∧ qZ m h0 d k_later 0 [some (.ref m), some (iv 2), some (iv s0), some (iv 0), some (iv 0)] [] (u2 B 44 x2 (B 46 0)) (fun o B' => o = .inl none ∧ r_compile_119 m h0 d x3 B' Q)
theorem r_compile_98_ok {m : Nat} {h0 : qH} {d : Nat} {x2 x3 s0 : Int} {B : qB} {Q : qO → qB → Prop} (hm : m + 100 < 1000000000) (w : r_compile_98 m h0 d x2 x3 s0 B Q) : qZ m h0 (d + 1) k_compile 98 [some (.ref m), none, some (iv x2), some (iv x3), none, none, none] [iv s0] B Q := by
  unfold r_compile_98 at w
  obtain ⟨p1, p2, w⟩ := w
  refine z_st1 (ok := q_isI) (n := 5) (L' := [some (.ref m), none, some (iv x2), some (iv x3), none, some (iv s0), none]) (ck_at dt_compile 57 rfl) rfl (fun _ => rfl) (fun _ _ => rfl) rfl nl_compile (by decide) trivial rfl ?_
  refine z_ldk (ok := q_isA) (n := 0) (ck_at dt_compile 58 rfl) rfl rfl (fun _ => rfl) rfl rfl ?_
  refine z_getR (j := 44) (a := 30) (ck_at dt_compile 59 rfl) own_compile (mf_at 31 rfl) (by decide) rfl rfl ?_
  refine z_ldk (ok := q_isI) (n := 2) (ck_at dt_compile 60 rfl) rfl rfl (fun _ => rfl) rfl rfl ?_
  refine z_ldk (ok := q_isA) (n := 0) (ck_at dt_compile 61 rfl) rfl rfl (fun _ => rfl) rfl rfl ?_
  refine z_getI (j := 46) (ck_at dt_compile 62 rfl) own_compile (mf_at 61 rfl) (by decide) rfl ?_
  refine z_iast (j := 44) (n := 6000) hm (ck_at dt_compile 63 rfl) rfl rfl rfl p1 p2 ?_
  refine z_ldk (ok := q_isA) (n := 0) (ck_at dt_compile 64 rfl) rfl rfl (fun _ => rfl) rfl rfl ?_
  refine z_op (ck_at dt_compile 65 rfl) rfl (o_const _) ?_
  refine z_ldk (ok := q_isI) (n := 5) (ck_at dt_compile 66 rfl) rfl rfl (fun _ => rfl) rfl rfl ?_
  refine z_op (ck_at dt_compile 67 rfl) rfl (o_const _) ?_
  refine z_op (ck_at dt_compile 68 rfl) rfl (o_const _) ?_
  refine z_virt (k' := k_later) (n := 0) (as := [iv 2, iv s0, iv 0, iv 0]) (r := []) (ck_at dt_compile 69 rfl) own_compile (mm_at 32 rfl) vk_later rfl nl_later rfl rfl rfl rfl ?_
  exact w.mono (Nat.le_refl _) (fun o B' ⟨ho, w⟩ => ⟨none, ho, z_wk (r_compile_119_ok hm w) ⟨rfl, ⟨rfl, trivial⟩⟩⟩)
def r_compile_83 (m : Nat) (h0 : qH) (d : Nat) (B : qB) (Q : qO → qB → Prop) : Prop := r_compile_427 m h0 d B Q
theorem r_compile_83_ok {m : Nat} {h0 : qH} {d : Nat} {B : qB} {Q : qO → qB → Prop} (hm : m + 100 < 1000000000) (w : r_compile_83 m h0 d B Q) : qZ m h0 (d + 1) k_compile 83 [some (.ref m), none, none, none, none, none, none] [] B Q := by
  unfold r_compile_83 at w
  refine z_goto (t := 427) (ck_at dt_compile 48 rfl) rfl ?_
  exact z_wk (r_compile_427_ok hm w) ⟨rfl, trivial⟩
def r_compile_16 (m : Nat) (h0 : qH) (d : Nat) (B : qB) (Q : qO → qB → Prop) : Prop := R32 (B 64 0) ∧ (B 64 0 ≤ 0 → Q (.inl none) B) ∧ (B 64 0 > 0 → 0 ≤ (B 64 0) - 1 ∧ (B 64 0) - 1 < 6000 ∧ R32 (B 60 ((B 64 0) - 1)) ∧ (¬ B 60 ((B 64 0) - 1) = 0 → (¬ B 60 ((B 64 0) - 1) = 1 → (¬ B 60 ((B 64 0) - 1) = 2 → (¬ B 60 ((B 64 0) - 1) = 3 → (¬ B 60 ((B 64 0) - 1) = 4 → (¬ B 60 ((B 64 0) - 1) = 5 → (¬ B 60 ((B 64 0) - 1) = 6 → (¬ B 60 ((B 64 0) - 1) = 7 → (¬ B 60 ((B 64 0) - 1) = 8 → qZ m h0 d k_emit 0 [some (.ref m), some (iv 1), some (iv 0), some (iv 0), none] [] (u2 B 64 0 ((B 64 0) - 1)) (fun o B' => ∃ v : Int, o = .inl (some (iv v)) ∧ r_compile_426 m h0 d v B' Q)) ∧ (B 60 ((B 64 0) - 1) = 8 → qZ m h0 d k_maybe 0 [some (.ref m), some (iv (B 61 ((B 64 0) - 1))), some (iv (B 62 ((B 64 0) - 1))), some (iv (B 63 ((B 64 0) - 1))), none, none, none] [] (u2 B 64 0 ((B 64 0) - 1)) (fun o B' => o = .inl none ∧ r_compile_416 m h0 d B' Q))) ∧ (B 60 ((B 64 0) - 1) = 7 → 0 ≤ B 62 ((B 64 0) - 1) ∧ B 62 ((B 64 0) - 1) < 800 ∧ qZ m h0 d k_emit 0 [some (.ref m), some (iv 5), some (iv (B 62 ((B 64 0) - 1))), some (iv 0), none] [] (u2 (u2 B 64 0 ((B 64 0) - 1)) 55 0 (B 53 (B 62 ((B 64 0) - 1)))) (fun o B' => ∃ v : Int, o = .inl (some (iv v)) ∧ r_compile_367 m h0 d (B 61 ((B 64 0) - 1)) (B 63 ((B 64 0) - 1)) v B' Q))) ∧ (B 60 ((B 64 0) - 1) = 6 → qZ m h0 d k_emit 0 [some (.ref m), some (iv 1), some (iv 0), some (iv 0), none] [] (u2 B 64 0 ((B 64 0) - 1)) (fun o B' => ∃ v : Int, o = .inl (some (iv v)) ∧ r_compile_273 m h0 d (B 61 ((B 64 0) - 1)) (B 62 ((B 64 0) - 1)) v B' Q))) ∧ (B 60 ((B 64 0) - 1) = 5 → 0 ≤ B 61 ((B 64 0) - 1) ∧ B 61 ((B 64 0) - 1) < 3000 ∧ R32 (B 21 (B 61 ((B 64 0) - 1))) ∧ (B 21 (B 61 ((B 64 0) - 1)) ≥ 0 → r_compile_218 m h0 d (B 61 ((B 64 0) - 1)) (B 62 ((B 64 0) - 1)) 8 (u2 B 64 0 ((B 64 0) - 1)) Q) ∧ (B 21 (B 61 ((B 64 0) - 1)) < 0 → r_compile_218 m h0 d (B 61 ((B 64 0) - 1)) (B 62 ((B 64 0) - 1)) 6 (u2 B 64 0 ((B 64 0) - 1)) Q))) ∧ (B 60 ((B 64 0) - 1) = 4 → qZ m h0 d k_emit 0 [some (.ref m), some (iv 11), some (iv 0), some (iv 0), none] [] (u2 B 64 0 ((B 64 0) - 1)) (fun o B' => ∃ v : Int, o = .inl (some (iv v)) ∧ r_compile_177 m h0 d (B 61 ((B 64 0) - 1)) (B 62 ((B 64 0) - 1)) v B' Q))) ∧ (B 60 ((B 64 0) - 1) = 3 → qZ m h0 d k_emit 0 [some (.ref m), some (iv 3), some (iv (B 61 ((B 64 0) - 1))), some (iv 0), none] [] (u2 B 64 0 ((B 64 0) - 1)) (fun o B' => ∃ v : Int, o = .inl (some (iv v)) ∧ r_compile_160 m h0 d v B' Q))) ∧ (B 60 ((B 64 0) - 1) = 2 → 0 ≤ B 61 ((B 64 0) - 1) ∧ B 61 ((B 64 0) - 1) < 6000 ∧ r_compile_427 m h0 d (u2 (u2 B 64 0 ((B 64 0) - 1)) 43 (B 61 ((B 64 0) - 1)) (B 46 0)) Q)) ∧ (B 60 ((B 64 0) - 1) = 1 → qZ m h0 d k_emit 0 [some (.ref m), some (iv 2), some (iv 0), some (iv 0), none] [] (u2 B 64 0 ((B 64 0) - 1)) (fun o B' => ∃ v : Int, o = .inl (some (iv v)) ∧ r_compile_98 m h0 d (B 61 ((B 64 0) - 1)) (B 62 ((B 64 0) - 1)) v B' Q))) ∧ (B 60 ((B 64 0) - 1) = 0 → qZ m h0 d k_nodeOf 0 [some (.ref m), some (iv (B 61 ((B 64 0) - 1))), none, none] [] (u2 B 64 0 ((B 64 0) - 1)) (fun o B' => o = .inl none ∧ r_compile_83 m h0 d B' Q)))
theorem r_compile_16_ok {m : Nat} {h0 : qH} {d : Nat} {B : qB} {Q : qO → qB → Prop} (hm : m + 100 < 1000000000) (w : r_compile_16 m h0 d B Q) : qZ m h0 (d + 1) k_compile 16 [some (.ref m), none, none, none, none, none, none] [] B Q := by
  unfold r_compile_16 at w
  obtain ⟨p1, w⟩ := w
  refine z_ldk (ok := q_isA) (n := 0) (ck_at dt_compile 10 rfl) rfl rfl (fun _ => rfl) rfl rfl ?_
  refine z_getI (j := 64) (ck_at dt_compile 11 rfl) own_compile (mf_at 68 rfl) (by decide) rfl ?_
  refine z_ifz (t := 430) (ck_at dt_compile 12 rfl) rfl p1 ?_ ?_
  · intro q; have w := w.1 q
    exact z_ret0 (ck_at dt_compile 253 rfl) rt_compile w
  · intro q; have w := w.2 q
    obtain ⟨p2, p3, p4, w⟩ := w
    refine z_ldk (ok := q_isA) (n := 0) (ck_at dt_compile 13 rfl) rfl rfl (fun _ => rfl) rfl rfl ?_
    refine z_op (ck_at dt_compile 14 rfl) rfl rfl ?_
    refine z_getI (j := 64) (ck_at dt_compile 15 rfl) own_compile (mf_at 68 rfl) (by decide) rfl ?_
    refine z_op (ck_at dt_compile 16 rfl) rfl (o_const _) ?_
    refine z_op (ck_at dt_compile 17 rfl) rfl o_isub ?_
    refine z_putI (j := 64) hm (ck_at dt_compile 18 rfl) own_compile (mf_at 68 rfl) (by decide) rfl rfl rfl ?_
    refine z_ldk (ok := q_isA) (n := 0) (ck_at dt_compile 19 rfl) rfl rfl (fun _ => rfl) rfl rfl ?_
    refine z_getR (j := 60) (a := 38) (ck_at dt_compile 20 rfl) own_compile (mf_at 39 rfl) (by decide) rfl rfl ?_
    refine z_ldk (ok := q_isA) (n := 0) (ck_at dt_compile 21 rfl) rfl rfl (fun _ => rfl) rfl rfl ?_
    refine z_getI (j := 64) (ck_at dt_compile 22 rfl) own_compile (mf_at 68 rfl) (by decide) rfl ?_
    refine z_iald (j := 60) (n := 6000) (ck_at dt_compile 23 rfl) rfl rfl rfl p2 p3 ?_
    refine z_st1 (ok := q_isI) (n := 1) (L' := [some (.ref m), some (iv (B 60 ((B 64 0) - 1))), none, none, none, none, none]) (ck_at dt_compile 24 rfl) rfl (fun _ => rfl) (fun _ _ => rfl) rfl nl_compile (by decide) rfl rfl ?_
    refine z_ldk (ok := q_isA) (n := 0) (ck_at dt_compile 25 rfl) rfl rfl (fun _ => rfl) rfl rfl ?_
    refine z_getR (j := 61) (a := 39) (ck_at dt_compile 26 rfl) own_compile (mf_at 40 rfl) (by decide) rfl rfl ?_
    refine z_ldk (ok := q_isA) (n := 0) (ck_at dt_compile 27 rfl) rfl rfl (fun _ => rfl) rfl rfl ?_
    refine z_getI (j := 64) (ck_at dt_compile 28 rfl) own_compile (mf_at 68 rfl) (by decide) rfl ?_
    refine z_iald (j := 61) (n := 6000) (ck_at dt_compile 29 rfl) rfl rfl rfl p2 p3 ?_
    refine z_st1 (ok := q_isI) (n := 2) (L' := [some (.ref m), some (iv (B 60 ((B 64 0) - 1))), some (iv (B 61 ((B 64 0) - 1))), none, none, none, none]) (ck_at dt_compile 30 rfl) rfl (fun _ => rfl) (fun _ _ => rfl) rfl nl_compile (by decide) rfl rfl ?_
    refine z_ldk (ok := q_isA) (n := 0) (ck_at dt_compile 31 rfl) rfl rfl (fun _ => rfl) rfl rfl ?_
    refine z_getR (j := 62) (a := 40) (ck_at dt_compile 32 rfl) own_compile (mf_at 41 rfl) (by decide) rfl rfl ?_
    refine z_ldk (ok := q_isA) (n := 0) (ck_at dt_compile 33 rfl) rfl rfl (fun _ => rfl) rfl rfl ?_
    refine z_getI (j := 64) (ck_at dt_compile 34 rfl) own_compile (mf_at 68 rfl) (by decide) rfl ?_
    refine z_iald (j := 62) (n := 6000) (ck_at dt_compile 35 rfl) rfl rfl rfl p2 p3 ?_
    refine z_st1 (ok := q_isI) (n := 3) (L' := [some (.ref m), some (iv (B 60 ((B 64 0) - 1))), some (iv (B 61 ((B 64 0) - 1))), some (iv (B 62 ((B 64 0) - 1))), none, none, none]) (ck_at dt_compile 36 rfl) rfl (fun _ => rfl) (fun _ _ => rfl) rfl nl_compile (by decide) rfl rfl ?_
    refine z_ldk (ok := q_isA) (n := 0) (ck_at dt_compile 37 rfl) rfl rfl (fun _ => rfl) rfl rfl ?_
    refine z_getR (j := 63) (a := 41) (ck_at dt_compile 38 rfl) own_compile (mf_at 42 rfl) (by decide) rfl rfl ?_
    refine z_ldk (ok := q_isA) (n := 0) (ck_at dt_compile 39 rfl) rfl rfl (fun _ => rfl) rfl rfl ?_
    refine z_getI (j := 64) (ck_at dt_compile 40 rfl) own_compile (mf_at 68 rfl) (by decide) rfl ?_
    refine z_iald (j := 63) (n := 6000) (ck_at dt_compile 41 rfl) rfl rfl rfl p2 p3 ?_
    refine z_st1 (ok := q_isI) (n := 4) (L' := [some (.ref m), some (iv (B 60 ((B 64 0) - 1))), some (iv (B 61 ((B 64 0) - 1))), some (iv (B 62 ((B 64 0) - 1))), some (iv (B 63 ((B 64 0) - 1))), none, none]) (ck_at dt_compile 42 rfl) rfl (fun _ => rfl) (fun _ _ => rfl) rfl nl_compile (by decide) rfl rfl ?_
    refine z_ldk (ok := q_isI) (n := 1) (ck_at dt_compile 43 rfl) rfl rfl (fun _ => rfl) rfl rfl ?_
    refine z_ifz (t := 86) (ck_at dt_compile 44 rfl) rfl p4 ?_ ?_
    · intro q; have w := w.1 q
      refine z_ldk (ok := q_isI) (n := 1) (ck_at dt_compile 49 rfl) rfl rfl (fun _ => rfl) rfl rfl ?_
      refine z_op (ck_at dt_compile 50 rfl) rfl (o_const _) ?_
      refine z_icmp (t := 130) (ck_at dt_compile 51 rfl) rfl p4 ⟨by decide, by decide⟩ ?_ ?_
      · intro q; have w := w.1 q
        refine z_ldk (ok := q_isI) (n := 1) (ck_at dt_compile 77 rfl) rfl rfl (fun _ => rfl) rfl rfl ?_
        refine z_op (ck_at dt_compile 78 rfl) rfl (o_const _) ?_
        refine z_icmp (t := 148) (ck_at dt_compile 79 rfl) rfl p4 ⟨by decide, by decide⟩ ?_ ?_
        · intro q; have w := w.1 q
          refine z_ldk (ok := q_isI) (n := 1) (ck_at dt_compile 87 rfl) rfl rfl (fun _ => rfl) rfl rfl ?_
          refine z_op (ck_at dt_compile 88 rfl) rfl (o_const _) ?_
          refine z_icmp (t := 164) (ck_at dt_compile 89 rfl) rfl p4 ⟨by decide, by decide⟩ ?_ ?_
          · intro q; have w := w.1 q
            refine z_ldk (ok := q_isI) (n := 1) (ck_at dt_compile 97 rfl) rfl rfl (fun _ => rfl) rfl rfl ?_
            refine z_op (ck_at dt_compile 98 rfl) rfl (o_const _) ?_
            refine z_icmp (t := 196) (ck_at dt_compile 99 rfl) rfl p4 ⟨by decide, by decide⟩ ?_ ?_
            · intro q; have w := w.1 q
              refine z_ldk (ok := q_isI) (n := 1) (ck_at dt_compile 116 rfl) rfl rfl (fun _ => rfl) rfl rfl ?_
              refine z_op (ck_at dt_compile 117 rfl) rfl (o_const _) ?_
              refine z_icmp (t := 260) (ck_at dt_compile 118 rfl) rfl p4 ⟨by decide, by decide⟩ ?_ ?_
              · intro q; have w := w.1 q
                refine z_ldk (ok := q_isI) (n := 1) (ck_at dt_compile 152 rfl) rfl rfl (fun _ => rfl) rfl rfl ?_
                refine z_op (ck_at dt_compile 153 rfl) rfl (o_bipush _ (by decide)) ?_
                refine z_icmp (t := 344) (ck_at dt_compile 154 rfl) rfl p4 ⟨by decide, by decide⟩ ?_ ?_
                · intro q; have w := w.1 q
                  refine z_ldk (ok := q_isI) (n := 1) (ck_at dt_compile 201 rfl) rfl rfl (fun _ => rfl) rfl rfl ?_
                  refine z_op (ck_at dt_compile 202 rfl) rfl (o_bipush _ (by decide)) ?_
                  refine z_icmp (t := 402) (ck_at dt_compile 203 rfl) rfl p4 ⟨by decide, by decide⟩ ?_ ?_
                  · intro q; have w := w.1 q
                    refine z_ldk (ok := q_isI) (n := 1) (ck_at dt_compile 237 rfl) rfl rfl (fun _ => rfl) rfl rfl ?_
                    refine z_op (ck_at dt_compile 238 rfl) rfl (o_bipush _ (by decide)) ?_
                    refine z_icmp (t := 419) (ck_at dt_compile 239 rfl) rfl p4 ⟨by decide, by decide⟩ ?_ ?_
                    · intro q; have w := w.1 q
                      refine z_ldk (ok := q_isA) (n := 0) (ck_at dt_compile 246 rfl) rfl rfl (fun _ => rfl) rfl rfl ?_
                      refine z_op (ck_at dt_compile 247 rfl) rfl (o_const _) ?_
                      refine z_op (ck_at dt_compile 248 rfl) rfl (o_const _) ?_
                      refine z_op (ck_at dt_compile 249 rfl) rfl (o_const _) ?_
                      refine z_virt (k' := k_emit) (n := 1) (as := [iv 1, iv 0, iv 0]) (r := []) (ck_at dt_compile 250 rfl) own_compile (mm_at 30 rfl) vk_emit rfl nl_emit rfl rfl rfl rfl ?_
                      exact w.mono (Nat.le_refl _) (fun o B' ⟨v, ho, w⟩ => ⟨some (iv v), ho, z_wk (r_compile_426_ok hm w) ⟨rfl, trivial⟩⟩)
                    · intro q; have w := w.2 q
                      refine z_ldk (ok := q_isA) (n := 0) (ck_at dt_compile 240 rfl) rfl rfl (fun _ => rfl) rfl rfl ?_
                      refine z_ldk (ok := q_isI) (n := 2) (ck_at dt_compile 241 rfl) rfl rfl (fun _ => rfl) rfl rfl ?_
                      refine z_ldk (ok := q_isI) (n := 3) (ck_at dt_compile 242 rfl) rfl rfl (fun _ => rfl) rfl rfl ?_
                      refine z_ldk (ok := q_isI) (n := 4) (ck_at dt_compile 243 rfl) rfl rfl (fun _ => rfl) rfl rfl ?_
                      refine z_virt (k' := k_maybe) (n := 3) (as := [iv (B 61 ((B 64 0) - 1)), iv (B 62 ((B 64 0) - 1)), iv (B 63 ((B 64 0) - 1))]) (r := []) (ck_at dt_compile 244 rfl) own_compile (mm_at 35 rfl) vk_maybe rfl nl_maybe rfl rfl rfl rfl ?_
                      exact w.mono (Nat.le_refl _) (fun o B' ⟨ho, w⟩ => ⟨none, ho, z_wk (r_compile_416_ok hm w) ⟨rfl, trivial⟩⟩)
                  · intro q; have w := w.2 q
                    obtain ⟨p5, p6, w⟩ := w
                    refine z_ldk (ok := q_isA) (n := 0) (ck_at dt_compile 204 rfl) rfl rfl (fun _ => rfl) rfl rfl ?_
                    refine z_ldk (ok := q_isA) (n := 0) (ck_at dt_compile 205 rfl) rfl rfl (fun _ => rfl) rfl rfl ?_
                    refine z_getR (j := 53) (a := 36) (ck_at dt_compile 206 rfl) own_compile (mf_at 37 rfl) (by decide) rfl rfl ?_
                    refine z_ldk (ok := q_isI) (n := 3) (ck_at dt_compile 207 rfl) rfl rfl (fun _ => rfl) rfl rfl ?_
                    refine z_iald (j := 53) (n := 800) (ck_at dt_compile 208 rfl) rfl rfl rfl p5 p6 ?_
                    refine z_putI (j := 55) hm (ck_at dt_compile 209 rfl) own_compile (mf_at 65 rfl) (by decide) rfl rfl rfl ?_
                    refine z_ldk (ok := q_isA) (n := 0) (ck_at dt_compile 210 rfl) rfl rfl (fun _ => rfl) rfl rfl ?_
                    refine z_op (ck_at dt_compile 211 rfl) rfl (o_const _) ?_
                    refine z_ldk (ok := q_isI) (n := 3) (ck_at dt_compile 212 rfl) rfl rfl (fun _ => rfl) rfl rfl ?_
                    refine z_op (ck_at dt_compile 213 rfl) rfl (o_const _) ?_
                    refine z_virt (k' := k_emit) (n := 1) (as := [iv 5, iv (B 62 ((B 64 0) - 1)), iv 0]) (r := []) (ck_at dt_compile 214 rfl) own_compile (mm_at 30 rfl) vk_emit rfl nl_emit rfl rfl rfl rfl ?_
                    exact w.mono (Nat.le_refl _) (fun o B' ⟨v, ho, w⟩ => ⟨some (iv v), ho, z_wk (r_compile_367_ok hm w) ⟨rfl, ⟨rfl, ⟨rfl, trivial⟩⟩⟩⟩)
                · intro q; have w := w.2 q
                  refine z_ldk (ok := q_isA) (n := 0) (ck_at dt_compile 155 rfl) rfl rfl (fun _ => rfl) rfl rfl ?_
                  refine z_op (ck_at dt_compile 156 rfl) rfl (o_const _) ?_
                  refine z_op (ck_at dt_compile 157 rfl) rfl (o_const _) ?_
                  refine z_op (ck_at dt_compile 158 rfl) rfl (o_const _) ?_
                  refine z_virt (k' := k_emit) (n := 1) (as := [iv 1, iv 0, iv 0]) (r := []) (ck_at dt_compile 159 rfl) own_compile (mm_at 30 rfl) vk_emit rfl nl_emit rfl rfl rfl rfl ?_
                  exact w.mono (Nat.le_refl _) (fun o B' ⟨v, ho, w⟩ => ⟨some (iv v), ho, z_wk (r_compile_273_ok hm w) ⟨rfl, ⟨rfl, ⟨rfl, trivial⟩⟩⟩⟩)
              · intro q; have w := w.2 q
                obtain ⟨p7, p8, p9, w⟩ := w
                refine z_ldk (ok := q_isA) (n := 0) (ck_at dt_compile 119 rfl) rfl rfl (fun _ => rfl) rfl rfl ?_
                refine z_ldk (ok := q_isA) (n := 0) (ck_at dt_compile 120 rfl) rfl rfl (fun _ => rfl) rfl rfl ?_
                refine z_getR (j := 21) (a := 16) (ck_at dt_compile 121 rfl) own_compile (mf_at 17 rfl) (by decide) rfl rfl ?_
                refine z_ldk (ok := q_isI) (n := 2) (ck_at dt_compile 122 rfl) rfl rfl (fun _ => rfl) rfl rfl ?_
                refine z_iald (j := 21) (n := 3000) (ck_at dt_compile 123 rfl) rfl rfl rfl p7 p8 ?_
                refine z_ifz (t := 216) (ck_at dt_compile 124 rfl) rfl p9 ?_ ?_
                · intro q; have w := w.1 q
                  refine z_op (ck_at dt_compile 127 rfl) rfl (o_bipush _ (by decide)) ?_
                  exact z_wk (r_compile_218_ok hm w) ⟨rfl, ⟨rfl, ⟨rfl, trivial⟩⟩⟩
                · intro q; have w := w.2 q
                  refine z_op (ck_at dt_compile 125 rfl) rfl (o_bipush _ (by decide)) ?_
                  refine z_goto (t := 218) (ck_at dt_compile 126 rfl) rfl ?_
                  exact z_wk (r_compile_218_ok hm w) ⟨rfl, ⟨rfl, ⟨rfl, trivial⟩⟩⟩
            · intro q; have w := w.2 q
              refine z_ldk (ok := q_isA) (n := 0) (ck_at dt_compile 100 rfl) rfl rfl (fun _ => rfl) rfl rfl ?_
              refine z_op (ck_at dt_compile 101 rfl) rfl (o_bipush _ (by decide)) ?_
              refine z_op (ck_at dt_compile 102 rfl) rfl (o_const _) ?_
              refine z_op (ck_at dt_compile 103 rfl) rfl (o_const _) ?_
              refine z_virt (k' := k_emit) (n := 1) (as := [iv 11, iv 0, iv 0]) (r := []) (ck_at dt_compile 104 rfl) own_compile (mm_at 30 rfl) vk_emit rfl nl_emit rfl rfl rfl rfl ?_
              exact w.mono (Nat.le_refl _) (fun o B' ⟨v, ho, w⟩ => ⟨some (iv v), ho, z_wk (r_compile_177_ok hm w) ⟨rfl, ⟨rfl, ⟨rfl, trivial⟩⟩⟩⟩)
          · intro q; have w := w.2 q
            refine z_ldk (ok := q_isA) (n := 0) (ck_at dt_compile 90 rfl) rfl rfl (fun _ => rfl) rfl rfl ?_
            refine z_op (ck_at dt_compile 91 rfl) rfl (o_const _) ?_
            refine z_ldk (ok := q_isI) (n := 2) (ck_at dt_compile 92 rfl) rfl rfl (fun _ => rfl) rfl rfl ?_
            refine z_op (ck_at dt_compile 93 rfl) rfl (o_const _) ?_
            refine z_virt (k' := k_emit) (n := 1) (as := [iv 3, iv (B 61 ((B 64 0) - 1)), iv 0]) (r := []) (ck_at dt_compile 94 rfl) own_compile (mm_at 30 rfl) vk_emit rfl nl_emit rfl rfl rfl rfl ?_
            exact w.mono (Nat.le_refl _) (fun o B' ⟨v, ho, w⟩ => ⟨some (iv v), ho, z_wk (r_compile_160_ok hm w) ⟨rfl, trivial⟩⟩)
        · intro q; have w := w.2 q
          obtain ⟨p10, p11, w⟩ := w
          refine z_ldk (ok := q_isA) (n := 0) (ck_at dt_compile 80 rfl) rfl rfl (fun _ => rfl) rfl rfl ?_
          refine z_getR (j := 43) (a := 29) (ck_at dt_compile 81 rfl) own_compile (mf_at 30 rfl) (by decide) rfl rfl ?_
          refine z_ldk (ok := q_isI) (n := 2) (ck_at dt_compile 82 rfl) rfl rfl (fun _ => rfl) rfl rfl ?_
          refine z_ldk (ok := q_isA) (n := 0) (ck_at dt_compile 83 rfl) rfl rfl (fun _ => rfl) rfl rfl ?_
          refine z_getI (j := 46) (ck_at dt_compile 84 rfl) own_compile (mf_at 61 rfl) (by decide) rfl ?_
          refine z_iast (j := 43) (n := 6000) hm (ck_at dt_compile 85 rfl) rfl rfl rfl p10 p11 ?_
          refine z_goto (t := 427) (ck_at dt_compile 86 rfl) rfl ?_
          exact z_wk (r_compile_427_ok hm w) ⟨rfl, trivial⟩
      · intro q; have w := w.2 q
        refine z_ldk (ok := q_isA) (n := 0) (ck_at dt_compile 52 rfl) rfl rfl (fun _ => rfl) rfl rfl ?_
        refine z_op (ck_at dt_compile 53 rfl) rfl (o_const _) ?_
        refine z_op (ck_at dt_compile 54 rfl) rfl (o_const _) ?_
        refine z_op (ck_at dt_compile 55 rfl) rfl (o_const _) ?_
        refine z_virt (k' := k_emit) (n := 1) (as := [iv 2, iv 0, iv 0]) (r := []) (ck_at dt_compile 56 rfl) own_compile (mm_at 30 rfl) vk_emit rfl nl_emit rfl rfl rfl rfl ?_
        exact w.mono (Nat.le_refl _) (fun o B' ⟨v, ho, w⟩ => ⟨some (iv v), ho, z_wk (r_compile_98_ok hm w) ⟨rfl, ⟨rfl, ⟨rfl, trivial⟩⟩⟩⟩)
    · intro q; have w := w.2 q
      refine z_ldk (ok := q_isA) (n := 0) (ck_at dt_compile 45 rfl) rfl rfl (fun _ => rfl) rfl rfl ?_
      refine z_ldk (ok := q_isI) (n := 2) (ck_at dt_compile 46 rfl) rfl rfl (fun _ => rfl) rfl rfl ?_
      refine z_virt (k' := k_nodeOf) (n := 2) (as := [iv (B 61 ((B 64 0) - 1))]) (r := []) (ck_at dt_compile 47 rfl) own_compile (mm_at 33 rfl) vk_nodeOf rfl nl_nodeOf rfl rfl rfl rfl ?_
      exact w.mono (Nat.le_refl _) (fun o B' ⟨ho, w⟩ => ⟨none, ho, z_wk (r_compile_83_ok hm w) ⟨rfl, trivial⟩⟩)
def r_compile_0 (m : Nat) (h0 : qH) (d : Nat) (B : qB) (Q : qO → qB → Prop) : Prop := qZ m h0 d k_later 0 [some (.ref m), some (iv 0), some (iv (B 34 0)), some (iv 0), some (iv 0)] [] (u2 B 64 0 0) (fun o B' => o = .inl none ∧ qZ m h0 (d + 1) k_compile 16 [some (.ref m), none, none, none, none, none, none] [] B' Q)
theorem r_compile_0_ok {m : Nat} {h0 : qH} {d : Nat} {B : qB} {Q : qO → qB → Prop} (hm : m + 100 < 1000000000) (w : r_compile_0 m h0 d B Q) : qZ m h0 (d + 1) k_compile 0 [some (.ref m), none, none, none, none, none, none] [] B Q := by
  unfold r_compile_0 at w
  refine z_ldk (ok := q_isA) (n := 0) (ck_at dt_compile 0 rfl) rfl rfl (fun _ => rfl) rfl rfl ?_
  refine z_op (ck_at dt_compile 1 rfl) rfl (o_const _) ?_
  refine z_putI (j := 64) hm (ck_at dt_compile 2 rfl) own_compile (mf_at 68 rfl) (by decide) rfl rfl rfl ?_
  refine z_ldk (ok := q_isA) (n := 0) (ck_at dt_compile 3 rfl) rfl rfl (fun _ => rfl) rfl rfl ?_
  refine z_op (ck_at dt_compile 4 rfl) rfl (o_const _) ?_
  refine z_ldk (ok := q_isA) (n := 0) (ck_at dt_compile 5 rfl) rfl rfl (fun _ => rfl) rfl rfl ?_
  refine z_getI (j := 34) (ck_at dt_compile 6 rfl) own_compile (mf_at 52 rfl) (by decide) rfl ?_
  refine z_op (ck_at dt_compile 7 rfl) rfl (o_const _) ?_
  refine z_op (ck_at dt_compile 8 rfl) rfl (o_const _) ?_
  refine z_virt (k' := k_later) (n := 0) (as := [iv 0, iv (B 34 0), iv 0, iv 0]) (r := []) (ck_at dt_compile 9 rfl) own_compile (mm_at 32 rfl) vk_later rfl nl_later rfl rfl rfl rfl ?_
  exact w.mono (Nat.le_refl _) (fun o B' ⟨ho, w⟩ => ⟨none, ho, z_wk w ⟨rfl, trivial⟩⟩)
/-! maybe(III)V -/
def t_maybe : List (Nat × Instr × Nat) := [(0, .aload_n 0, 1), (1, .getfield 62, 3), (4, .iload_n 1, 1), (5, .iaload, 1), (6, .aload_n 0, 1), (7, .getfield 59, 3), (10, .iload_n 1, 1), (11, .iaload, 1), (12, .isub, 1), (13, .istore 4, 2), (15, .iload 4, 2), (17, .ifCond .ne 4, 3), (20, .return_, 1), (21, .iload_n 3, 1), (22, .ifCond .ge 54, 3), (25, .aload_n 0, 1), (26, .bipush 8, 2), (28, .iload_n 1, 1), (29, .iload_n 2, 1), (30, .aload_n 0, 1), (31, .getfield 283, 3), (34, .invokevirtual 298, 3), (37, .iconst 0, 1), (38, .istore 5, 2), (40, .iload 5, 2), (42, .iload 4, 2), (44, .if_icmp .ge 31, 3), (47, .aload_n 0, 1), (48, .iconst 0, 1), (49, .aload_n 0, 1), (50, .getfield 53, 3), (53, .iload_n 1, 1), (54, .iaload, 1), (55, .iconst 0, 1), (56, .iconst 0, 1), (57, .invokevirtual 298, 3), (60, .aload_n 0, 1), (61, .bipush 9, 2), (63, .iconst 0, 1), (64, .iconst 0, 1), (65, .iconst 0, 1), (66, .invokevirtual 298, 3), (69, .iinc 5 1, 3), (72, .goto (-32), 3), (75, .return_, 1), (76, .aload_n 0, 1), (77, .getfield 283, 3), (80, .iload_n 3, 1), (81, .isub, 1), (82, .iload 4, 2), (84, .idiv, 1), (85, .istore 5, 2), (87, .iconst 0, 1), (88, .istore 6, 2), (90, .iload 6, 2), (92, .iload 4, 2), (94, .if_icmp .ge 43, 3), (97, .aload_n 0, 1), (98, .iload_n 3, 1), (99, .iload 6, 2), (101, .iload 5, 2), (103, .imul, 1), (104, .iadd, 1), (105, .iload_n 3, 1), (106, .iload 6, 2), (108, .iload 5, 2), (110, .imul, 1), (111, .iadd, 1), (112, .iconst 1, 1), (113, .iadd, 1), (114, .aload_n 0, 1), (115, .getfield 283, 3), (118, .iload_n 2, 1), (119, .iconst 1, 1), (120, .if_icmp .ne 7, 3), (123, .iconst 1, 1), (124, .goto 4, 3), (127, .iconst 0, 1), (128, .invokevirtual 311, 3), (131, .iinc 6 1, 3), (134, .goto (-44), 3), (137, .return_, 1)]
set_option maxRecDepth 100000 in
theorem dt_maybe : q_ck k_maybe t_maybe = true := by decide +kernel
def r_maybe_131 (m : Nat) (h0 : qH) (d : Nat) (x2 x3 x4 x5 x6 : Int) (B : qB) (Q : qO → qB → Prop) : Prop := qZ m h0 (d + 1) k_maybe 90 [some (.ref m), none, some (iv x2), some (iv x3), some (iv x4), some (iv x5), some (iv (x6 + 1))] [] B Q
theorem r_maybe_131_ok {m : Nat} {h0 : qH} {d : Nat} {x2 x3 x4 x5 x6 : Int} {B : qB} {Q : qO → qB → Prop} (hm : m + 100 < 1000000000) (w : r_maybe_131 m h0 d x2 x3 x4 x5 x6 B Q) : qZ m h0 (d + 1) k_maybe 131 [some (.ref m), none, some (iv x2), some (iv x3), some (iv x4), some (iv x5), some (iv x6)] [] B Q := by
  unfold r_maybe_131 at w
  refine z_iinc (n := 6) (L' := [some (.ref m), none, some (iv x2), some (iv x3), some (iv x4), some (iv x5), some (iv (x6 + 1))]) (ck_at dt_maybe 79 rfl) rfl nl_maybe (by decide) rfl rfl ?_
  refine z_goto (t := 90) (ck_at dt_maybe 80 rfl) rfl ?_
  exact z_wk w ⟨rfl, ⟨rfl, ⟨rfl, ⟨rfl, ⟨rfl, ⟨rfl, trivial⟩⟩⟩⟩⟩⟩
def r_maybe_128 (m : Nat) (h0 : qH) (d : Nat) (x2 x3 x4 x5 x6 s1 s2 s3 s4 : Int) (B : qB) (Q : qO → qB → Prop) : Prop := qZ m h0 d k_split 0 [some (.ref m), some (iv s1), some (iv s2), some (iv s3), some (iv s4)] [] B (fun o B' => o = .inl none ∧ r_maybe_131 m h0 d x2 x3 x4 x5 x6 B' Q)
theorem r_maybe_128_ok {m : Nat} {h0 : qH} {d : Nat} {x2 x3 x4 x5 x6 s1 s2 s3 s4 : Int} {B : qB} {Q : qO → qB → Prop} (hm : m + 100 < 1000000000) (w : r_maybe_128 m h0 d x2 x3 x4 x5 x6 s1 s2 s3 s4 B Q) : qZ m h0 (d + 1) k_maybe 128 [some (.ref m), none, some (iv x2), some (iv x3), some (iv x4), some (iv x5), some (iv x6)] [iv s4, iv s3, iv s2, iv s1, .ref m] B Q := by
  unfold r_maybe_128 at w
  refine z_virt (k' := k_split) (n := 0) (as := [iv s1, iv s2, iv s3, iv s4]) (r := []) (ck_at dt_maybe 78 rfl) own_maybe (mm_at 34 rfl) vk_split rfl nl_split rfl rfl rfl rfl ?_
  exact w.mono (Nat.le_refl _) (fun o B' ⟨ho, w⟩ => ⟨none, ho, z_wk (r_maybe_131_ok hm w) ⟨rfl, ⟨rfl, ⟨rfl, ⟨rfl, ⟨rfl, ⟨rfl, trivial⟩⟩⟩⟩⟩⟩⟩)
def r_maybe_90 (m : Nat) (h0 : qH) (d : Nat) (x2 x3 x4 x5 x6 : Int) (B : qB) (Q : qO → qB → Prop) : Prop := R32 x6 ∧ R32 x4 ∧ (x6 ≥ x4 → Q (.inl none) B) ∧ (x6 < x4 → R32 x2 ∧ (¬ x2 = 1 → r_maybe_128 m h0 d x2 x3 x4 x5 x6 (x3 + (x6 * x5)) ((x3 + (x6 * x5)) + 1) (B 46 0) 0 B Q) ∧ (x2 = 1 → r_maybe_128 m h0 d x2 x3 x4 x5 x6 (x3 + (x6 * x5)) ((x3 + (x6 * x5)) + 1) (B 46 0) 1 B Q))
theorem r_maybe_90_ok {m : Nat} {h0 : qH} {d : Nat} {x2 x3 x4 x5 x6 : Int} {B : qB} {Q : qO → qB → Prop} (hm : m + 100 < 1000000000) (w : r_maybe_90 m h0 d x2 x3 x4 x5 x6 B Q) : qZ m h0 (d + 1) k_maybe 90 [some (.ref m), none, some (iv x2), some (iv x3), some (iv x4), some (iv x5), some (iv x6)] [] B Q := by
  unfold r_maybe_90 at w
  obtain ⟨p1, p2, w⟩ := w
  refine z_ldk (ok := q_isI) (n := 6) (ck_at dt_maybe 54 rfl) rfl rfl (fun _ => rfl) rfl rfl ?_
  refine z_ldk (ok := q_isI) (n := 4) (ck_at dt_maybe 55 rfl) rfl rfl (fun _ => rfl) rfl rfl ?_
  refine z_icmp (t := 137) (ck_at dt_maybe 56 rfl) rfl p1 p2 ?_ ?_
  · intro q; have w := w.1 q
    exact z_ret0 (ck_at dt_maybe 81 rfl) rt_maybe w
  · intro q; have w := w.2 q
    obtain ⟨p3, w⟩ := w
    refine z_ldk (ok := q_isA) (n := 0) (ck_at dt_maybe 57 rfl) rfl rfl (fun _ => rfl) rfl rfl ?_
    refine z_ldk (ok := q_isI) (n := 3) (ck_at dt_maybe 58 rfl) rfl rfl (fun _ => rfl) rfl rfl ?_
    refine z_ldk (ok := q_isI) (n := 6) (ck_at dt_maybe 59 rfl) rfl rfl (fun _ => rfl) rfl rfl ?_
    refine z_ldk (ok := q_isI) (n := 5) (ck_at dt_maybe 60 rfl) rfl rfl (fun _ => rfl) rfl rfl ?_
    refine z_op (ck_at dt_maybe 61 rfl) rfl o_imul ?_
    refine z_op (ck_at dt_maybe 62 rfl) rfl o_iadd ?_
    refine z_ldk (ok := q_isI) (n := 3) (ck_at dt_maybe 63 rfl) rfl rfl (fun _ => rfl) rfl rfl ?_
    refine z_ldk (ok := q_isI) (n := 6) (ck_at dt_maybe 64 rfl) rfl rfl (fun _ => rfl) rfl rfl ?_
    refine z_ldk (ok := q_isI) (n := 5) (ck_at dt_maybe 65 rfl) rfl rfl (fun _ => rfl) rfl rfl ?_
    refine z_op (ck_at dt_maybe 66 rfl) rfl o_imul ?_
    refine z_op (ck_at dt_maybe 67 rfl) rfl o_iadd ?_
    refine z_op (ck_at dt_maybe 68 rfl) rfl (o_const _) ?_
    refine z_op (ck_at dt_maybe 69 rfl) rfl o_iadd ?_
    refine z_ldk (ok := q_isA) (n := 0) (ck_at dt_maybe 70 rfl) rfl rfl (fun _ => rfl) rfl rfl ?_
    refine z_getI (j := 46) (ck_at dt_maybe 71 rfl) own_maybe (mf_at 61 rfl) (by decide) rfl ?_
    refine z_ldk (ok := q_isI) (n := 2) (ck_at dt_maybe 72 rfl) rfl rfl (fun _ => rfl) rfl rfl ?_
    refine z_op (ck_at dt_maybe 73 rfl) rfl (o_const _) ?_
    refine z_icmp (t := 127) (ck_at dt_maybe 74 rfl) rfl p3 ⟨by decide, by decide⟩ ?_ ?_
    · intro q; have w := w.1 q
      refine z_op (ck_at dt_maybe 77 rfl) rfl (o_const _) ?_
      exact z_wk (r_maybe_128_ok hm w) ⟨rfl, ⟨rfl, ⟨rfl, ⟨rfl, ⟨rfl, ⟨rfl, trivial⟩⟩⟩⟩⟩⟩
    · intro q; have w := w.2 q
      refine z_op (ck_at dt_maybe 75 rfl) rfl (o_const _) ?_
      refine z_goto (t := 128) (ck_at dt_maybe 76 rfl) rfl ?_
      exact z_wk (r_maybe_128_ok hm w) ⟨rfl, ⟨rfl, ⟨rfl, ⟨rfl, ⟨rfl, ⟨rfl, trivial⟩⟩⟩⟩⟩⟩
def r_maybe_69 (m : Nat) (h0 : qH) (d : Nat) (x1 x4 x5 : Int) (B : qB) (Q : qO → qB → Prop) : Prop := qZ m h0 (d + 1) k_maybe 40 [some (.ref m), some (iv x1), none, none, some (iv x4), some (iv (x5 + 1)), none] [] B Q
theorem r_maybe_69_ok {m : Nat} {h0 : qH} {d : Nat} {x1 x4 x5 : Int} {B : qB} {Q : qO → qB → Prop} (hm : m + 100 < 1000000000) (w : r_maybe_69 m h0 d x1 x4 x5 B Q) : qZ m h0 (d + 1) k_maybe 69 [some (.ref m), some (iv x1), none, none, some (iv x4), some (iv x5), none] [] B Q := by
  unfold r_maybe_69 at w
  refine z_iinc (n := 5) (L' := [some (.ref m), some (iv x1), none, none, some (iv x4), some (iv (x5 + 1)), none]) (ck_at dt_maybe 42 rfl) rfl nl_maybe (by decide) rfl rfl ?_
  refine z_goto (t := 40) (ck_at dt_maybe 43 rfl) rfl ?_
  exact z_wk w ⟨rfl, ⟨rfl, ⟨rfl, ⟨rfl, trivial⟩⟩⟩⟩
def r_maybe_60 (m : Nat) (h0 : qH) (d : Nat) (x1 x4 x5 : Int) (B : qB) (Q : qO → qB → Prop) : Prop := qZ m h0 d k_later 0 [some (.ref m), some (iv 9), some (iv 0), some (iv 0), some (iv 0)] [] B (fun o B' => o = .inl none ∧ r_maybe_69 m h0 d x1 x4 x5 B' Q)
theorem r_maybe_60_ok {m : Nat} {h0 : qH} {d : Nat} {x1 x4 x5 : Int} {B : qB} {Q : qO → qB → Prop} (hm : m + 100 < 1000000000) (w : r_maybe_60 m h0 d x1 x4 x5 B Q) : qZ m h0 (d + 1) k_maybe 60 [some (.ref m), some (iv x1), none, none, some (iv x4), some (iv x5), none] [] B Q := by
  unfold r_maybe_60 at w
  refine z_ldk (ok := q_isA) (n := 0) (ck_at dt_maybe 36 rfl) rfl rfl (fun _ => rfl) rfl rfl ?_
  refine z_op (ck_at dt_maybe 37 rfl) rfl (o_bipush _ (by decide)) ?_
  refine z_op (ck_at dt_maybe 38 rfl) rfl (o_const _) ?_
  refine z_op (ck_at dt_maybe 39 rfl) rfl (o_const _) ?_
  refine z_op (ck_at dt_maybe 40 rfl) rfl (o_const _) ?_
  refine z_virt (k' := k_later) (n := 0) (as := [iv 9, iv 0, iv 0, iv 0]) (r := []) (ck_at dt_maybe 41 rfl) own_maybe (mm_at 32 rfl) vk_later rfl nl_later rfl rfl rfl rfl ?_
  exact w.mono (Nat.le_refl _) (fun o B' ⟨ho, w⟩ => ⟨none, ho, z_wk (r_maybe_69_ok hm w) ⟨rfl, ⟨rfl, ⟨rfl, ⟨rfl, trivial⟩⟩⟩⟩⟩)
def r_maybe_40 (m : Nat) (h0 : qH) (d : Nat) (x1 x4 x5 : Int) (B : qB) (Q : qO → qB → Prop) : Prop := R32 x5 ∧ R32 x4 ∧ (x5 ≥ x4 → Q (.inl none) B) ∧ (x5 < x4 → 0 ≤ x1 ∧ x1 < 3000 ∧ qZ m h0 d k_later 0 [some (.ref m), some (iv 0), some (iv (B 18 x1)), some (iv 0), some (iv 0)] [] B (fun o B' => o = .inl none ∧ r_maybe_60 m h0 d x1 x4 x5 B' Q))
theorem r_maybe_40_ok {m : Nat} {h0 : qH} {d : Nat} {x1 x4 x5 : Int} {B : qB} {Q : qO → qB → Prop} (hm : m + 100 < 1000000000) (w : r_maybe_40 m h0 d x1 x4 x5 B Q) : qZ m h0 (d + 1) k_maybe 40 [some (.ref m), some (iv x1), none, none, some (iv x4), some (iv x5), none] [] B Q := by
  unfold r_maybe_40 at w
  obtain ⟨p1, p2, w⟩ := w
  refine z_ldk (ok := q_isI) (n := 5) (ck_at dt_maybe 24 rfl) rfl rfl (fun _ => rfl) rfl rfl ?_
  refine z_ldk (ok := q_isI) (n := 4) (ck_at dt_maybe 25 rfl) rfl rfl (fun _ => rfl) rfl rfl ?_
  refine z_icmp (t := 75) (ck_at dt_maybe 26 rfl) rfl p1 p2 ?_ ?_
  · intro q; have w := w.1 q
    exact z_ret0 (ck_at dt_maybe 44 rfl) rt_maybe w
  · intro q; have w := w.2 q
    obtain ⟨p3, p4, w⟩ := w
    refine z_ldk (ok := q_isA) (n := 0) (ck_at dt_maybe 27 rfl) rfl rfl (fun _ => rfl) rfl rfl ?_
    refine z_op (ck_at dt_maybe 28 rfl) rfl (o_const _) ?_
    refine z_ldk (ok := q_isA) (n := 0) (ck_at dt_maybe 29 rfl) rfl rfl (fun _ => rfl) rfl rfl ?_
    refine z_getR (j := 18) (a := 13) (ck_at dt_maybe 30 rfl) own_maybe (mf_at 14 rfl) (by decide) rfl rfl ?_
    refine z_ldk (ok := q_isI) (n := 1) (ck_at dt_maybe 31 rfl) rfl rfl (fun _ => rfl) rfl rfl ?_
    refine z_iald (j := 18) (n := 3000) (ck_at dt_maybe 32 rfl) rfl rfl rfl p3 p4 ?_
    refine z_op (ck_at dt_maybe 33 rfl) rfl (o_const _) ?_
    refine z_op (ck_at dt_maybe 34 rfl) rfl (o_const _) ?_
    refine z_virt (k' := k_later) (n := 0) (as := [iv 0, iv (B 18 x1), iv 0, iv 0]) (r := []) (ck_at dt_maybe 35 rfl) own_maybe (mm_at 32 rfl) vk_later rfl nl_later rfl rfl rfl rfl ?_
    exact w.mono (Nat.le_refl _) (fun o B' ⟨ho, w⟩ => ⟨none, ho, z_wk (r_maybe_60_ok hm w) ⟨rfl, ⟨rfl, ⟨rfl, ⟨rfl, trivial⟩⟩⟩⟩⟩)
def r_maybe_37 (m : Nat) (h0 : qH) (d : Nat) (x1 x4 : Int) (B : qB) (Q : qO → qB → Prop) : Prop := qZ m h0 (d + 1) k_maybe 40 [some (.ref m), some (iv x1), none, none, some (iv x4), some (iv 0), none] [] B Q
theorem r_maybe_37_ok {m : Nat} {h0 : qH} {d : Nat} {x1 x4 : Int} {B : qB} {Q : qO → qB → Prop} (hm : m + 100 < 1000000000) (w : r_maybe_37 m h0 d x1 x4 B Q) : qZ m h0 (d + 1) k_maybe 37 [some (.ref m), some (iv x1), none, none, some (iv x4), none, none] [] B Q := by
  unfold r_maybe_37 at w
  refine z_op (ck_at dt_maybe 22 rfl) rfl (o_const _) ?_
  refine z_st1 (ok := q_isI) (n := 5) (L' := [some (.ref m), some (iv x1), none, none, some (iv x4), some (iv 0), none]) (ck_at dt_maybe 23 rfl) rfl (fun _ => rfl) (fun _ _ => rfl) rfl nl_maybe (by decide) rfl rfl ?_
  exact z_wk w ⟨rfl, ⟨rfl, ⟨rfl, ⟨rfl, trivial⟩⟩⟩⟩
def r_maybe_0 (m : Nat) (h0 : qH) (d : Nat) (x1 x2 x3 : Int) (B : qB) (Q : qO → qB → Prop) : Prop := 0 ≤ x1 ∧ x1 < 3000 ∧ R32 ((B 21 x1) - (B 20 x1)) ∧ (¬ (B 21 x1) - (B 20 x1) = 0 → R32 x3 ∧ (x3 ≥ 0 → ¬ (B 21 x1) - (B 20 x1) = 0 ∧ qZ m h0 (d + 1) k_maybe 90 [some (.ref m), none, some (iv x2), some (iv x3), some (iv ((B 21 x1) - (B 20 x1))), some (iv (iDiv ((B 46 0) - x3) ((B 21 x1) - (B 20 x1)))), some (iv 0)] [] B Q) ∧ (x3 < 0 → qZ m h0 d k_later 0 [some (.ref m), some (iv 8), some (iv x1), some (iv x2), some (iv (B 46 0))] [] B (fun o B' => o = .inl none ∧ r_maybe_37 m h0 d x1 ((B 21 x1) - (B 20 x1)) B' Q))) ∧ ((B 21 x1) - (B 20 x1) = 0 → Q (.inl none) B)
theorem r_maybe_0_ok {m : Nat} {h0 : qH} {d : Nat} {x1 x2 x3 : Int} {B : qB} {Q : qO → qB → Prop} (hm : m + 100 < 1000000000) (w : r_maybe_0 m h0 d x1 x2 x3 B Q) : qZ m h0 (d + 1) k_maybe 0 [some (.ref m), some (iv x1), some (iv x2), some (iv x3), none, none, none] [] B Q := by
  unfold r_maybe_0 at w
  obtain ⟨p1, p2, p3, w⟩ := w
  refine z_ldk (ok := q_isA) (n := 0) (ck_at dt_maybe 0 rfl) rfl rfl (fun _ => rfl) rfl rfl ?_
  refine z_getR (j := 21) (a := 16) (ck_at dt_maybe 1 rfl) own_maybe (mf_at 17 rfl) (by decide) rfl rfl ?_
  refine z_ldk (ok := q_isI) (n := 1) (ck_at dt_maybe 2 rfl) rfl rfl (fun _ => rfl) rfl rfl ?_
  refine z_iald (j := 21) (n := 3000) (ck_at dt_maybe 3 rfl) rfl rfl rfl p1 p2 ?_
  refine z_ldk (ok := q_isA) (n := 0) (ck_at dt_maybe 4 rfl) rfl rfl (fun _ => rfl) rfl rfl ?_
  refine z_getR (j := 20) (a := 15) (ck_at dt_maybe 5 rfl) own_maybe (mf_at 16 rfl) (by decide) rfl rfl ?_
  refine z_ldk (ok := q_isI) (n := 1) (ck_at dt_maybe 6 rfl) rfl rfl (fun _ => rfl) rfl rfl ?_
  refine z_iald (j := 20) (n := 3000) (ck_at dt_maybe 7 rfl) rfl rfl rfl p1 p2 ?_
  refine z_op (ck_at dt_maybe 8 rfl) rfl o_isub ?_
  refine z_st1 (ok := q_isI) (n := 4) (L' := [some (.ref m), some (iv x1), some (iv x2), some (iv x3), some (iv ((B 21 x1) - (B 20 x1))), none, none]) (ck_at dt_maybe 9 rfl) rfl (fun _ => rfl) (fun _ _ => rfl) rfl nl_maybe (by decide) rfl rfl ?_
  refine z_ldk (ok := q_isI) (n := 4) (ck_at dt_maybe 10 rfl) rfl rfl (fun _ => rfl) rfl rfl ?_
  refine z_ifz (t := 21) (ck_at dt_maybe 11 rfl) rfl p3 ?_ ?_
  · intro q; have w := w.1 q
    obtain ⟨p4, w⟩ := w
    refine z_ldk (ok := q_isI) (n := 3) (ck_at dt_maybe 13 rfl) rfl rfl (fun _ => rfl) rfl rfl ?_
    refine z_ifz (t := 76) (ck_at dt_maybe 14 rfl) rfl p4 ?_ ?_
    · intro q; have w := w.1 q
      obtain ⟨p5, w⟩ := w
      refine z_ldk (ok := q_isA) (n := 0) (ck_at dt_maybe 45 rfl) rfl rfl (fun _ => rfl) rfl rfl ?_
      refine z_getI (j := 46) (ck_at dt_maybe 46 rfl) own_maybe (mf_at 61 rfl) (by decide) rfl ?_
      refine z_ldk (ok := q_isI) (n := 3) (ck_at dt_maybe 47 rfl) rfl rfl (fun _ => rfl) rfl rfl ?_
      refine z_op (ck_at dt_maybe 48 rfl) rfl o_isub ?_
      refine z_ldk (ok := q_isI) (n := 4) (ck_at dt_maybe 49 rfl) rfl rfl (fun _ => rfl) rfl rfl ?_
      refine z_op (ck_at dt_maybe 50 rfl) rfl (o_idiv p3 p5) ?_
      refine z_st1 (ok := q_isI) (n := 5) (L' := [some (.ref m), some (iv x1), some (iv x2), some (iv x3), some (iv ((B 21 x1) - (B 20 x1))), some (iv (iDiv ((B 46 0) - x3) ((B 21 x1) - (B 20 x1)))), none]) (ck_at dt_maybe 51 rfl) rfl (fun _ => rfl) (fun _ _ => rfl) rfl nl_maybe (by decide) rfl rfl ?_
      refine z_op (ck_at dt_maybe 52 rfl) rfl (o_const _) ?_
      refine z_st1 (ok := q_isI) (n := 6) (L' := [some (.ref m), some (iv x1), some (iv x2), some (iv x3), some (iv ((B 21 x1) - (B 20 x1))), some (iv (iDiv ((B 46 0) - x3) ((B 21 x1) - (B 20 x1)))), some (iv 0)]) (ck_at dt_maybe 53 rfl) rfl (fun _ => rfl) (fun _ _ => rfl) rfl nl_maybe (by decide) rfl rfl ?_
      exact z_wk w ⟨rfl, ⟨rfl, ⟨rfl, ⟨rfl, ⟨rfl, ⟨rfl, trivial⟩⟩⟩⟩⟩⟩
    · intro q; have w := w.2 q
      refine z_ldk (ok := q_isA) (n := 0) (ck_at dt_maybe 15 rfl) rfl rfl (fun _ => rfl) rfl rfl ?_
      refine z_op (ck_at dt_maybe 16 rfl) rfl (o_bipush _ (by decide)) ?_
      refine z_ldk (ok := q_isI) (n := 1) (ck_at dt_maybe 17 rfl) rfl rfl (fun _ => rfl) rfl rfl ?_
      refine z_ldk (ok := q_isI) (n := 2) (ck_at dt_maybe 18 rfl) rfl rfl (fun _ => rfl) rfl rfl ?_
      refine z_ldk (ok := q_isA) (n := 0) (ck_at dt_maybe 19 rfl) rfl rfl (fun _ => rfl) rfl rfl ?_
      refine z_getI (j := 46) (ck_at dt_maybe 20 rfl) own_maybe (mf_at 61 rfl) (by decide) rfl ?_
      refine z_virt (k' := k_later) (n := 0) (as := [iv 8, iv x1, iv x2, iv (B 46 0)]) (r := []) (ck_at dt_maybe 21 rfl) own_maybe (mm_at 32 rfl) vk_later rfl nl_later rfl rfl rfl rfl ?_
      exact w.mono (Nat.le_refl _) (fun o B' ⟨ho, w⟩ => ⟨none, ho, z_wk (r_maybe_37_ok hm w) ⟨rfl, ⟨rfl, ⟨rfl, trivial⟩⟩⟩⟩)
  · intro q; have w := w.2 q
    exact z_ret0 (ck_at dt_maybe 12 rfl) rt_maybe w
/-! nodeOf(I)V -/
def t_nodeOf : List (Nat × Instr × Nat) := [(0, .aload_n 0, 1), (1, .getfield 50, 3), (4, .iload_n 1, 1), (5, .iaload, 1), (6, .istore_n 2, 1), (7, .iload_n 2, 1), (8, .ifCond .ne 19, 3), (11, .aload_n 0, 1), (12, .iconst 0, 1), (13, .aload_n 0, 1), (14, .getfield 68, 3), (17, .iload_n 1, 1), (18, .iaload, 1), (19, .iconst 0, 1), (20, .invokevirtual 305, 3), (23, .pop, 1), (24, .goto 313, 3), (27, .iload_n 2, 1), (28, .iconst 1, 1), (29, .if_icmp .ne 32, 3), (32, .aload_n 0, 1), (33, .iconst 0, 1), (34, .aload_n 0, 1), (35, .getfield 56, 3), (38, .iload_n 1, 1), (39, .iaload, 1), (40, .iconst 0, 1), (41, .iconst 0, 1), (42, .invokevirtual 298, 3), (45, .aload_n 0, 1), (46, .iconst 0, 1), (47, .aload_n 0, 1), (48, .getfield 53, 3), (51, .iload_n 1, 1), (52, .iaload, 1), (53, .iconst 0, 1), (54, .iconst 0, 1), (55, .invokevirtual 298, 3), (58, .goto 279, 3), (61, .iload_n 2, 1), (62, .iconst 2, 1), (63, .if_icmp .ne 50, 3), (66, .aload_n 0, 1), (67, .iconst 1, 1), (68, .iconst 0, 1), (69, .iconst 0, 1), (70, .invokevirtual 305, 3), (73, .istore_n 3, 1), (74, .aload_n 0, 1), (75, .getfield 103, 3), (78, .iload_n 3, 1), (79, .aload_n 0, 1), (80, .getfield 283, 3), (83, .iastore, 1), (84, .aload_n 0, 1), (85, .iconst 1, 1), (86, .iload_n 3, 1), (87, .aload_n 0, 1), (88, .getfield 56, 3), (91, .iload_n 1, 1), (92, .iaload, 1), (93, .iconst 0, 1), (94, .invokevirtual 298, 3), (97, .aload_n 0, 1), (98, .iconst 0, 1), (99, .aload_n 0, 1), (100, .getfield 53, 3), (103, .iload_n 1, 1), (104, .iaload, 1), (105, .iconst 0, 1), (106, .iconst 0, 1), (107, .invokevirtual 298, 3), (110, .goto 227, 3), (113, .iload_n 2, 1), (114, .iconst 4, 1), (115, .if_icmp .ne 51, 3), (118, .aload_n 0, 1), (119, .iconst 3, 1), (120, .iconst 2, 1), (121, .aload_n 0, 1), (122, .getfield 56, 3), (125, .iload_n 1, 1), (126, .iaload, 1), (127, .imul, 1), (128, .iconst 0, 1), (129, .invokevirtual 305, 3), (132, .pop, 1), (133, .aload_n 0, 1), (134, .iconst 3, 1), (135, .iconst 2, 1), (136, .aload_n 0, 1), (137, .getfield 56, 3), (140, .iload_n 1, 1), (141, .iaload, 1), (142, .imul, 1), (143, .iconst 1, 1), (144, .iadd, 1), (145, .iconst 0, 1), (146, .iconst 0, 1), (147, .invokevirtual 298, 3), (150, .aload_n 0, 1), (151, .iconst 0, 1), (152, .aload_n 0, 1), (153, .getfield 53, 3), (156, .iload_n 1, 1), (157, .iaload, 1), (158, .iconst 0, 1), (159, .iconst 0, 1), (160, .invokevirtual 298, 3), (163, .goto 174, 3), (166, .iload_n 2, 1), (167, .iconst 5, 1), (168, .if_icmp .eq 24, 3), (171, .iload_n 2, 1), (172, .bipush 6, 2), (174, .if_icmp .eq 18, 3), (177, .iload_n 2, 1), (178, .iconst 3, 1), (179, .if_icmp .ne 89, 3), (182, .aload_n 0, 1), (183, .getfield 65, 3), (186, .iload_n 1, 1), (187, .iaload, 1), (188, .iconst 2, 1), (189, .if_icmp .ne 79, 3), (192, .aload_n 0, 1), (193, .bipush 6, 2), (195, .iload_n 2, 1), (196, .iconst 5, 1), (197, .if_icmp .ne 7, 3), (200, .iconst 1, 1), (201, .goto 14, 3), (204, .iload_n 2, 1), (205, .bipush 6, 2), (207, .if_icmp .ne 7, 3), (210, .iconst 2, 1), (211, .goto 4, 3), (214, .iconst 0, 1), (215, .iconst 0, 1), (216, .invokevirtual 305, 3), (219, .istore_n 3, 1), (220, .aload_n 0, 1), (221, .iconst 4, 1), (222, .iload_n 3, 1), (223, .aload_n 0, 1), (224, .getfield 289, 3), (227, .iconst 0, 1), (228, .invokevirtual 298, 3), (231, .aload_n 0, 1), (232, .iconst (-1), 1), (233, .putfield 289, 3), (236, .iload_n 2, 1), (237, .iconst 3, 1), (238, .if_icmp .ne 14, 3), (241, .aload_n 0, 1), (242, .iconst 5, 1), (243, .iload_n 1, 1), (244, .iconst 0, 1), (245, .iconst 0, 1), (246, .invokevirtual 298, 3), (249, .goto 16, 3), (252, .aload_n 0, 1), (253, .iconst 0, 1), (254, .aload_n 0, 1), (255, .getfield 53, 3), (258, .iload_n 1, 1), (259, .iaload, 1), (260, .iconst 0, 1), (261, .iconst 0, 1), (262, .invokevirtual 298, 3), (265, .goto 72, 3), (268, .iload_n 2, 1), (269, .iconst 3, 1), (270, .if_icmp .ne 19, 3), (273, .aload_n 0, 1), (274, .iconst 5, 1), (275, .iload_n 1, 1), (276, .aload_n 0, 1), (277, .getfield 65, 3), (280, .iload_n 1, 1), (281, .iaload, 1), (282, .iconst 0, 1), (283, .invokevirtual 298, 3), (286, .goto 51, 3), (289, .iload_n 2, 1), (290, .bipush 11, 2), (292, .if_icmp .eq 45, 3), (295, .aload_n 0, 1), (296, .iload_n 2, 1), (297, .bipush 7, 2), (299, .if_icmp .ne 8, 3), (302, .bipush 7, 2), (304, .goto 27, 3), (307, .iload_n 2, 1), (308, .bipush 8, 2), (310, .if_icmp .ne 8, 3), (313, .bipush 8, 2), (315, .goto 16, 3), (318, .iload_n 2, 1), (319, .bipush 9, 2), (321, .if_icmp .ne 8, 3), (324, .bipush 9, 2), (326, .goto 5, 3), (329, .bipush 10, 2), (331, .iconst 0, 1), (332, .iconst 0, 1), (333, .invokevirtual 305, 3), (336, .pop, 1), (337, .return_, 1)]
set_option maxRecDepth 100000 in
theorem dt_nodeOf : q_ck k_nodeOf t_nodeOf = true := by decide +kernel
def r_nodeOf_336 (m : Nat) (h0 : qH) (d : Nat) (s0 : Int) (B : qB) (Q : qO → qB → Prop) : Prop := Q (.inl none) B
theorem r_nodeOf_336_ok {m : Nat} {h0 : qH} {d : Nat} {s0 : Int} {B : qB} {Q : qO → qB → Prop} (hm : m + 100 < 1000000000) (w : r_nodeOf_336 m h0 d s0 B Q) : qZ m h0 (d + 1) k_nodeOf 336 [none, none, none, none] [iv s0] B Q := by
  unfold r_nodeOf_336 at w
  refine z_op (ck_at dt_nodeOf 207 rfl) rfl rfl ?_
  exact z_ret0 (ck_at dt_nodeOf 208 rfl) rt_nodeOf w
def r_nodeOf_331 (m : Nat) (h0 : qH) (d : Nat) (s1 : Int) (B : qB) (Q : qO → qB → Prop) : Prop := qZ m h0 d k_emit 0 [some (.ref m), some (iv s1), some (iv 0), some (iv 0), none] [] B (fun o B' => ∃ v : Int, o = .inl (some (iv v)) ∧ r_nodeOf_336 m h0 d v B' Q)
theorem r_nodeOf_331_ok {m : Nat} {h0 : qH} {d : Nat} {s1 : Int} {B : qB} {Q : qO → qB → Prop} (hm : m + 100 < 1000000000) (w : r_nodeOf_331 m h0 d s1 B Q) : qZ m h0 (d + 1) k_nodeOf 331 [none, none, none, none] [iv s1, .ref m] B Q := by
  unfold r_nodeOf_331 at w
  refine z_op (ck_at dt_nodeOf 204 rfl) rfl (o_const _) ?_
  refine z_op (ck_at dt_nodeOf 205 rfl) rfl (o_const _) ?_
  refine z_virt (k' := k_emit) (n := 1) (as := [iv s1, iv 0, iv 0]) (r := []) (ck_at dt_nodeOf 206 rfl) own_nodeOf (mm_at 30 rfl) vk_emit rfl nl_emit rfl rfl rfl rfl ?_
  exact w.mono (Nat.le_refl _) (fun o B' ⟨v, ho, w⟩ => ⟨some (iv v), ho, z_wk (r_nodeOf_336_ok hm w) trivial⟩)
def r_nodeOf_286 (m : Nat) (h0 : qH) (d : Nat) (B : qB) (Q : qO → qB → Prop) : Prop := Q (.inl none) B
theorem r_nodeOf_286_ok {m : Nat} {h0 : qH} {d : Nat} {B : qB} {Q : qO → qB → Prop} (hm : m + 100 < 1000000000) (w : r_nodeOf_286 m h0 d B Q) : qZ m h0 (d + 1) k_nodeOf 286 [none, none, none, none] [] B Q := by
  unfold r_nodeOf_286 at w
  refine z_goto (t := 337) (ck_at dt_nodeOf 183 rfl) rfl ?_
  exact z_ret0 (ck_at dt_nodeOf 208 rfl) rt_nodeOf w
def r_nodeOf_268 (m : Nat) (h0 : qH) (d : Nat) (x1 x2 : Int) (B : qB) (Q : qO → qB → Prop) : Prop := R32 x2 ∧ (¬ x2 = 3 → (x2 = 11 → Q (.inl none) B) ∧ (¬ x2 = 11 → (¬ x2 = 7 → (¬ x2 = 8 → (¬ x2 = 9 → r_nodeOf_331 m h0 d 10 B Q) ∧ (x2 = 9 → r_nodeOf_331 m h0 d 9 B Q)) ∧ (x2 = 8 → r_nodeOf_331 m h0 d 8 B Q)) ∧ (x2 = 7 → r_nodeOf_331 m h0 d 7 B Q))) ∧ (x2 = 3 → 0 ≤ x1 ∧ x1 < 3000 ∧ qZ m h0 d k_later 0 [some (.ref m), some (iv 5), some (iv x1), some (iv (B 22 x1)), some (iv 0)] [] B (fun o B' => o = .inl none ∧ r_nodeOf_286 m h0 d B' Q))
theorem r_nodeOf_268_ok {m : Nat} {h0 : qH} {d : Nat} {x1 x2 : Int} {B : qB} {Q : qO → qB → Prop} (hm : m + 100 < 1000000000) (w : r_nodeOf_268 m h0 d x1 x2 B Q) : qZ m h0 (d + 1) k_nodeOf 268 [some (.ref m), some (iv x1), some (iv x2), none] [] B Q := by
  unfold r_nodeOf_268 at w
  obtain ⟨p1, w⟩ := w
  refine z_ldk (ok := q_isI) (n := 2) (ck_at dt_nodeOf 171 rfl) rfl rfl (fun _ => rfl) rfl rfl ?_
  refine z_op (ck_at dt_nodeOf 172 rfl) rfl (o_const _) ?_
  refine z_icmp (t := 289) (ck_at dt_nodeOf 173 rfl) rfl p1 ⟨by decide, by decide⟩ ?_ ?_
  · intro q; have w := w.1 q
    refine z_ldk (ok := q_isI) (n := 2) (ck_at dt_nodeOf 184 rfl) rfl rfl (fun _ => rfl) rfl rfl ?_
    refine z_op (ck_at dt_nodeOf 185 rfl) rfl (o_bipush _ (by decide)) ?_
    refine z_icmp (t := 337) (ck_at dt_nodeOf 186 rfl) rfl p1 ⟨by decide, by decide⟩ ?_ ?_
    · intro q; have w := w.1 q
      exact z_ret0 (ck_at dt_nodeOf 208 rfl) rt_nodeOf w
    · intro q; have w := w.2 q
      refine z_ldk (ok := q_isA) (n := 0) (ck_at dt_nodeOf 187 rfl) rfl rfl (fun _ => rfl) rfl rfl ?_
      refine z_ldk (ok := q_isI) (n := 2) (ck_at dt_nodeOf 188 rfl) rfl rfl (fun _ => rfl) rfl rfl ?_
      refine z_op (ck_at dt_nodeOf 189 rfl) rfl (o_bipush _ (by decide)) ?_
      refine z_icmp (t := 307) (ck_at dt_nodeOf 190 rfl) rfl p1 ⟨by decide, by decide⟩ ?_ ?_
      · intro q; have w := w.1 q
        refine z_ldk (ok := q_isI) (n := 2) (ck_at dt_nodeOf 193 rfl) rfl rfl (fun _ => rfl) rfl rfl ?_
        refine z_op (ck_at dt_nodeOf 194 rfl) rfl (o_bipush _ (by decide)) ?_
        refine z_icmp (t := 318) (ck_at dt_nodeOf 195 rfl) rfl p1 ⟨by decide, by decide⟩ ?_ ?_
        · intro q; have w := w.1 q
          refine z_ldk (ok := q_isI) (n := 2) (ck_at dt_nodeOf 198 rfl) rfl rfl (fun _ => rfl) rfl rfl ?_
          refine z_op (ck_at dt_nodeOf 199 rfl) rfl (o_bipush _ (by decide)) ?_
          refine z_icmp (t := 329) (ck_at dt_nodeOf 200 rfl) rfl p1 ⟨by decide, by decide⟩ ?_ ?_
          · intro q; have w := w.1 q
            refine z_op (ck_at dt_nodeOf 203 rfl) rfl (o_bipush _ (by decide)) ?_
            exact z_wk (r_nodeOf_331_ok hm w) trivial
          · intro q; have w := w.2 q
            refine z_op (ck_at dt_nodeOf 201 rfl) rfl (o_bipush _ (by decide)) ?_
            refine z_goto (t := 331) (ck_at dt_nodeOf 202 rfl) rfl ?_
            exact z_wk (r_nodeOf_331_ok hm w) trivial
        · intro q; have w := w.2 q
          refine z_op (ck_at dt_nodeOf 196 rfl) rfl (o_bipush _ (by decide)) ?_
          refine z_goto (t := 331) (ck_at dt_nodeOf 197 rfl) rfl ?_
          exact z_wk (r_nodeOf_331_ok hm w) trivial
      · intro q; have w := w.2 q
        refine z_op (ck_at dt_nodeOf 191 rfl) rfl (o_bipush _ (by decide)) ?_
        refine z_goto (t := 331) (ck_at dt_nodeOf 192 rfl) rfl ?_
        exact z_wk (r_nodeOf_331_ok hm w) trivial
  · intro q; have w := w.2 q
    obtain ⟨p2, p3, w⟩ := w
    refine z_ldk (ok := q_isA) (n := 0) (ck_at dt_nodeOf 174 rfl) rfl rfl (fun _ => rfl) rfl rfl ?_
    refine z_op (ck_at dt_nodeOf 175 rfl) rfl (o_const _) ?_
    refine z_ldk (ok := q_isI) (n := 1) (ck_at dt_nodeOf 176 rfl) rfl rfl (fun _ => rfl) rfl rfl ?_
    refine z_ldk (ok := q_isA) (n := 0) (ck_at dt_nodeOf 177 rfl) rfl rfl (fun _ => rfl) rfl rfl ?_
    refine z_getR (j := 22) (a := 17) (ck_at dt_nodeOf 178 rfl) own_nodeOf (mf_at 18 rfl) (by decide) rfl rfl ?_
    refine z_ldk (ok := q_isI) (n := 1) (ck_at dt_nodeOf 179 rfl) rfl rfl (fun _ => rfl) rfl rfl ?_
    refine z_iald (j := 22) (n := 3000) (ck_at dt_nodeOf 180 rfl) rfl rfl rfl p2 p3 ?_
    refine z_op (ck_at dt_nodeOf 181 rfl) rfl (o_const _) ?_
    refine z_virt (k' := k_later) (n := 0) (as := [iv 5, iv x1, iv (B 22 x1), iv 0]) (r := []) (ck_at dt_nodeOf 182 rfl) own_nodeOf (mm_at 32 rfl) vk_later rfl nl_later rfl rfl rfl rfl ?_
    exact w.mono (Nat.le_refl _) (fun o B' ⟨ho, w⟩ => ⟨none, ho, z_wk (r_nodeOf_286_ok hm w) trivial⟩)
def r_nodeOf_265 (m : Nat) (h0 : qH) (d : Nat) (B : qB) (Q : qO → qB → Prop) : Prop := Q (.inl none) B
theorem r_nodeOf_265_ok {m : Nat} {h0 : qH} {d : Nat} {B : qB} {Q : qO → qB → Prop} (hm : m + 100 < 1000000000) (w : r_nodeOf_265 m h0 d B Q) : qZ m h0 (d + 1) k_nodeOf 265 [none, none, none, none] [] B Q := by
  unfold r_nodeOf_265 at w
  refine z_goto (t := 337) (ck_at dt_nodeOf 170 rfl) rfl ?_
  exact z_ret0 (ck_at dt_nodeOf 208 rfl) rt_nodeOf w
def r_nodeOf_249 (m : Nat) (h0 : qH) (d : Nat) (B : qB) (Q : qO → qB → Prop) : Prop := r_nodeOf_265 m h0 d B Q
theorem r_nodeOf_249_ok {m : Nat} {h0 : qH} {d : Nat} {B : qB} {Q : qO → qB → Prop} (hm : m + 100 < 1000000000) (w : r_nodeOf_249 m h0 d B Q) : qZ m h0 (d + 1) k_nodeOf 249 [none, none, none, none] [] B Q := by
  unfold r_nodeOf_249 at w
  refine z_goto (t := 265) (ck_at dt_nodeOf 160 rfl) rfl ?_
  exact z_wk (r_nodeOf_265_ok hm w) trivial
def r_nodeOf_231 (m : Nat) (h0 : qH) (d : Nat) (x1 x2 : Int) (B : qB) (Q : qO → qB → Prop) : Prop := R32 x2 ∧ (¬ x2 = 3 → 0 ≤ x1 ∧ x1 < 3000 ∧ qZ m h0 d k_later 0 [some (.ref m), some (iv 0), some (iv (B 18 x1)), some (iv 0), some (iv 0)] [] (u2 B 55 0 (-1)) (fun o B' => o = .inl none ∧ r_nodeOf_265 m h0 d B' Q)) ∧ (x2 = 3 → qZ m h0 d k_later 0 [some (.ref m), some (iv 5), some (iv x1), some (iv 0), some (iv 0)] [] (u2 B 55 0 (-1)) (fun o B' => o = .inl none ∧ r_nodeOf_249 m h0 d B' Q))
theorem r_nodeOf_231_ok {m : Nat} {h0 : qH} {d : Nat} {x1 x2 : Int} {B : qB} {Q : qO → qB → Prop} (hm : m + 100 < 1000000000) (w : r_nodeOf_231 m h0 d x1 x2 B Q) : qZ m h0 (d + 1) k_nodeOf 231 [some (.ref m), some (iv x1), some (iv x2), none] [] B Q := by
  unfold r_nodeOf_231 at w
  obtain ⟨p1, w⟩ := w
  refine z_ldk (ok := q_isA) (n := 0) (ck_at dt_nodeOf 148 rfl) rfl rfl (fun _ => rfl) rfl rfl ?_
  refine z_op (ck_at dt_nodeOf 149 rfl) rfl (o_const _) ?_
  refine z_putI (j := 55) hm (ck_at dt_nodeOf 150 rfl) own_nodeOf (mf_at 65 rfl) (by decide) rfl rfl rfl ?_
  refine z_ldk (ok := q_isI) (n := 2) (ck_at dt_nodeOf 151 rfl) rfl rfl (fun _ => rfl) rfl rfl ?_
  refine z_op (ck_at dt_nodeOf 152 rfl) rfl (o_const _) ?_
  refine z_icmp (t := 252) (ck_at dt_nodeOf 153 rfl) rfl p1 ⟨by decide, by decide⟩ ?_ ?_
  · intro q; have w := w.1 q
    obtain ⟨p2, p3, w⟩ := w
    refine z_ldk (ok := q_isA) (n := 0) (ck_at dt_nodeOf 161 rfl) rfl rfl (fun _ => rfl) rfl rfl ?_
    refine z_op (ck_at dt_nodeOf 162 rfl) rfl (o_const _) ?_
    refine z_ldk (ok := q_isA) (n := 0) (ck_at dt_nodeOf 163 rfl) rfl rfl (fun _ => rfl) rfl rfl ?_
    refine z_getR (j := 18) (a := 13) (ck_at dt_nodeOf 164 rfl) own_nodeOf (mf_at 14 rfl) (by decide) rfl rfl ?_
    refine z_ldk (ok := q_isI) (n := 1) (ck_at dt_nodeOf 165 rfl) rfl rfl (fun _ => rfl) rfl rfl ?_
    refine z_iald (j := 18) (n := 3000) (ck_at dt_nodeOf 166 rfl) rfl rfl rfl p2 p3 ?_
    refine z_op (ck_at dt_nodeOf 167 rfl) rfl (o_const _) ?_
    refine z_op (ck_at dt_nodeOf 168 rfl) rfl (o_const _) ?_
    refine z_virt (k' := k_later) (n := 0) (as := [iv 0, iv (B 18 x1), iv 0, iv 0]) (r := []) (ck_at dt_nodeOf 169 rfl) own_nodeOf (mm_at 32 rfl) vk_later rfl nl_later rfl rfl rfl rfl ?_
    exact w.mono (Nat.le_refl _) (fun o B' ⟨ho, w⟩ => ⟨none, ho, z_wk (r_nodeOf_265_ok hm w) trivial⟩)
  · intro q; have w := w.2 q
    refine z_ldk (ok := q_isA) (n := 0) (ck_at dt_nodeOf 154 rfl) rfl rfl (fun _ => rfl) rfl rfl ?_
    refine z_op (ck_at dt_nodeOf 155 rfl) rfl (o_const _) ?_
    refine z_ldk (ok := q_isI) (n := 1) (ck_at dt_nodeOf 156 rfl) rfl rfl (fun _ => rfl) rfl rfl ?_
    refine z_op (ck_at dt_nodeOf 157 rfl) rfl (o_const _) ?_
    refine z_op (ck_at dt_nodeOf 158 rfl) rfl (o_const _) ?_
    refine z_virt (k' := k_later) (n := 0) (as := [iv 5, iv x1, iv 0, iv 0]) (r := []) (ck_at dt_nodeOf 159 rfl) own_nodeOf (mm_at 32 rfl) vk_later rfl nl_later rfl rfl rfl rfl ?_
    exact w.mono (Nat.le_refl _) (fun o B' ⟨ho, w⟩ => ⟨none, ho, z_wk (r_nodeOf_249_ok hm w) trivial⟩)
def r_nodeOf_219 (m : Nat) (h0 : qH) (d : Nat) (x1 x2 s0 : Int) (B : qB) (Q : qO → qB → Prop) : Prop := qZ m h0 d k_later 0 [some (.ref m), some (iv 4), some (iv s0), some (iv (B 55 0)), some (iv 0)] [] B (fun o B' => o = .inl none ∧ r_nodeOf_231 m h0 d x1 x2 B' Q)
theorem r_nodeOf_219_ok {m : Nat} {h0 : qH} {d : Nat} {x1 x2 s0 : Int} {B : qB} {Q : qO → qB → Prop} (hm : m + 100 < 1000000000) (w : r_nodeOf_219 m h0 d x1 x2 s0 B Q) : qZ m h0 (d + 1) k_nodeOf 219 [some (.ref m), some (iv x1), some (iv x2), none] [iv s0] B Q := by
  unfold r_nodeOf_219 at w
  refine z_st1 (ok := q_isI) (n := 3) (L' := [some (.ref m), some (iv x1), some (iv x2), some (iv s0)]) (ck_at dt_nodeOf 140 rfl) rfl (fun _ => rfl) (fun _ _ => rfl) rfl nl_nodeOf (by decide) rfl rfl ?_
  refine z_ldk (ok := q_isA) (n := 0) (ck_at dt_nodeOf 141 rfl) rfl rfl (fun _ => rfl) rfl rfl ?_
  refine z_op (ck_at dt_nodeOf 142 rfl) rfl (o_const _) ?_
  refine z_ldk (ok := q_isI) (n := 3) (ck_at dt_nodeOf 143 rfl) rfl rfl (fun _ => rfl) rfl rfl ?_
  refine z_ldk (ok := q_isA) (n := 0) (ck_at dt_nodeOf 144 rfl) rfl rfl (fun _ => rfl) rfl rfl ?_
  refine z_getI (j := 55) (ck_at dt_nodeOf 145 rfl) own_nodeOf (mf_at 65 rfl) (by decide) rfl ?_
  refine z_op (ck_at dt_nodeOf 146 rfl) rfl (o_const _) ?_
  refine z_virt (k' := k_later) (n := 0) (as := [iv 4, iv s0, iv (B 55 0), iv 0]) (r := []) (ck_at dt_nodeOf 147 rfl) own_nodeOf (mm_at 32 rfl) vk_later rfl nl_later rfl rfl rfl rfl ?_
  exact w.mono (Nat.le_refl _) (fun o B' ⟨ho, w⟩ => ⟨none, ho, z_wk (r_nodeOf_231_ok hm w) ⟨rfl, ⟨rfl, ⟨rfl, trivial⟩⟩⟩⟩)
def r_nodeOf_215 (m : Nat) (h0 : qH) (d : Nat) (x1 x2 s1 s2 : Int) (B : qB) (Q : qO → qB → Prop) : Prop := qZ m h0 d k_emit 0 [some (.ref m), some (iv s1), some (iv s2), some (iv 0), none] [] B (fun o B' => ∃ v : Int, o = .inl (some (iv v)) ∧ r_nodeOf_219 m h0 d x1 x2 v B' Q)
theorem r_nodeOf_215_ok {m : Nat} {h0 : qH} {d : Nat} {x1 x2 s1 s2 : Int} {B : qB} {Q : qO → qB → Prop} (hm : m + 100 < 1000000000) (w : r_nodeOf_215 m h0 d x1 x2 s1 s2 B Q) : qZ m h0 (d + 1) k_nodeOf 215 [some (.ref m), some (iv x1), some (iv x2), none] [iv s2, iv s1, .ref m] B Q := by
  unfold r_nodeOf_215 at w
  refine z_op (ck_at dt_nodeOf 138 rfl) rfl (o_const _) ?_
  refine z_virt (k' := k_emit) (n := 1) (as := [iv s1, iv s2, iv 0]) (r := []) (ck_at dt_nodeOf 139 rfl) own_nodeOf (mm_at 30 rfl) vk_emit rfl nl_emit rfl rfl rfl rfl ?_
  exact w.mono (Nat.le_refl _) (fun o B' ⟨v, ho, w⟩ => ⟨some (iv v), ho, z_wk (r_nodeOf_219_ok hm w) ⟨rfl, ⟨rfl, ⟨rfl, trivial⟩⟩⟩⟩)
def r_nodeOf_192 (m : Nat) (h0 : qH) (d : Nat) (x1 x2 : Int) (B : qB) (Q : qO → qB → Prop) : Prop := R32 x2 ∧ (¬ x2 = 5 → (¬ x2 = 6 → r_nodeOf_215 m h0 d x1 x2 6 0 B Q) ∧ (x2 = 6 → r_nodeOf_215 m h0 d x1 x2 6 2 B Q)) ∧ (x2 = 5 → r_nodeOf_215 m h0 d x1 x2 6 1 B Q)
theorem r_nodeOf_192_ok {m : Nat} {h0 : qH} {d : Nat} {x1 x2 : Int} {B : qB} {Q : qO → qB → Prop} (hm : m + 100 < 1000000000) (w : r_nodeOf_192 m h0 d x1 x2 B Q) : qZ m h0 (d + 1) k_nodeOf 192 [some (.ref m), some (iv x1), some (iv x2), none] [] B Q := by
  unfold r_nodeOf_192 at w
  obtain ⟨p1, w⟩ := w
  refine z_ldk (ok := q_isA) (n := 0) (ck_at dt_nodeOf 125 rfl) rfl rfl (fun _ => rfl) rfl rfl ?_
  refine z_op (ck_at dt_nodeOf 126 rfl) rfl (o_bipush _ (by decide)) ?_
  refine z_ldk (ok := q_isI) (n := 2) (ck_at dt_nodeOf 127 rfl) rfl rfl (fun _ => rfl) rfl rfl ?_
  refine z_op (ck_at dt_nodeOf 128 rfl) rfl (o_const _) ?_
  refine z_icmp (t := 204) (ck_at dt_nodeOf 129 rfl) rfl p1 ⟨by decide, by decide⟩ ?_ ?_
  · intro q; have w := w.1 q
    refine z_ldk (ok := q_isI) (n := 2) (ck_at dt_nodeOf 132 rfl) rfl rfl (fun _ => rfl) rfl rfl ?_
    refine z_op (ck_at dt_nodeOf 133 rfl) rfl (o_bipush _ (by decide)) ?_
    refine z_icmp (t := 214) (ck_at dt_nodeOf 134 rfl) rfl p1 ⟨by decide, by decide⟩ ?_ ?_
    · intro q; have w := w.1 q
      refine z_op (ck_at dt_nodeOf 137 rfl) rfl (o_const _) ?_
      exact z_wk (r_nodeOf_215_ok hm w) ⟨rfl, ⟨rfl, ⟨rfl, trivial⟩⟩⟩
    · intro q; have w := w.2 q
      refine z_op (ck_at dt_nodeOf 135 rfl) rfl (o_const _) ?_
      refine z_goto (t := 215) (ck_at dt_nodeOf 136 rfl) rfl ?_
      exact z_wk (r_nodeOf_215_ok hm w) ⟨rfl, ⟨rfl, ⟨rfl, trivial⟩⟩⟩
  · intro q; have w := w.2 q
    refine z_op (ck_at dt_nodeOf 130 rfl) rfl (o_const _) ?_
    refine z_goto (t := 215) (ck_at dt_nodeOf 131 rfl) rfl ?_
    exact z_wk (r_nodeOf_215_ok hm w) ⟨rfl, ⟨rfl, ⟨rfl, trivial⟩⟩⟩
def r_nodeOf_163 (m : Nat) (h0 : qH) (d : Nat) (B : qB) (Q : qO → qB → Prop) : Prop := Q (.inl none) B
theorem r_nodeOf_163_ok {m : Nat} {h0 : qH} {d : Nat} {B : qB} {Q : qO → qB → Prop} (hm : m + 100 < 1000000000) (w : r_nodeOf_163 m h0 d B Q) : qZ m h0 (d + 1) k_nodeOf 163 [none, none, none, none] [] B Q := by
  unfold r_nodeOf_163 at w
  refine z_goto (t := 337) (ck_at dt_nodeOf 109 rfl) rfl ?_
  exact z_ret0 (ck_at dt_nodeOf 208 rfl) rt_nodeOf w
def r_nodeOf_150 (m : Nat) (h0 : qH) (d : Nat) (x1 : Int) (B : qB) (Q : qO → qB → Prop) : Prop := 0 ≤ x1 ∧ x1 < 3000 ∧ qZ m h0 d k_later 0 [some (.ref m), some (iv 0), some (iv (B 18 x1)), some (iv 0), some (iv 0)] [] B (fun o B' => o = .inl none ∧ r_nodeOf_163 m h0 d B' Q)
theorem r_nodeOf_150_ok {m : Nat} {h0 : qH} {d : Nat} {x1 : Int} {B : qB} {Q : qO → qB → Prop} (hm : m + 100 < 1000000000) (w : r_nodeOf_150 m h0 d x1 B Q) : qZ m h0 (d + 1) k_nodeOf 150 [some (.ref m), some (iv x1), none, none] [] B Q := by
  unfold r_nodeOf_150 at w
  obtain ⟨p1, p2, w⟩ := w
  refine z_ldk (ok := q_isA) (n := 0) (ck_at dt_nodeOf 100 rfl) rfl rfl (fun _ => rfl) rfl rfl ?_
  refine z_op (ck_at dt_nodeOf 101 rfl) rfl (o_const _) ?_
  refine z_ldk (ok := q_isA) (n := 0) (ck_at dt_nodeOf 102 rfl) rfl rfl (fun _ => rfl) rfl rfl ?_
  refine z_getR (j := 18) (a := 13) (ck_at dt_nodeOf 103 rfl) own_nodeOf (mf_at 14 rfl) (by decide) rfl rfl ?_
  refine z_ldk (ok := q_isI) (n := 1) (ck_at dt_nodeOf 104 rfl) rfl rfl (fun _ => rfl) rfl rfl ?_
  refine z_iald (j := 18) (n := 3000) (ck_at dt_nodeOf 105 rfl) rfl rfl rfl p1 p2 ?_
  refine z_op (ck_at dt_nodeOf 106 rfl) rfl (o_const _) ?_
  refine z_op (ck_at dt_nodeOf 107 rfl) rfl (o_const _) ?_
  refine z_virt (k' := k_later) (n := 0) (as := [iv 0, iv (B 18 x1), iv 0, iv 0]) (r := []) (ck_at dt_nodeOf 108 rfl) own_nodeOf (mm_at 32 rfl) vk_later rfl nl_later rfl rfl rfl rfl ?_
  exact w.mono (Nat.le_refl _) (fun o B' ⟨ho, w⟩ => ⟨none, ho, z_wk (r_nodeOf_163_ok hm w) trivial⟩)
def r_nodeOf_132 (m : Nat) (h0 : qH) (d : Nat) (x1 s0 : Int) (B : qB) (Q : qO → qB → Prop) : Prop := 0 ≤ x1 ∧ x1 < 3000 ∧ qZ m h0 d k_later 0 [some (.ref m), some (iv 3), some (iv ((2 * (B 19 x1)) + 1)), some (iv 0), some (iv 0)] [] B (fun o B' => o = .inl none ∧ r_nodeOf_150 m h0 d x1 B' Q)
theorem r_nodeOf_132_ok {m : Nat} {h0 : qH} {d : Nat} {x1 s0 : Int} {B : qB} {Q : qO → qB → Prop} (hm : m + 100 < 1000000000) (w : r_nodeOf_132 m h0 d x1 s0 B Q) : qZ m h0 (d + 1) k_nodeOf 132 [some (.ref m), some (iv x1), none, none] [iv s0] B Q := by
  unfold r_nodeOf_132 at w
  obtain ⟨p1, p2, w⟩ := w
  refine z_op (ck_at dt_nodeOf 86 rfl) rfl rfl ?_
  refine z_ldk (ok := q_isA) (n := 0) (ck_at dt_nodeOf 87 rfl) rfl rfl (fun _ => rfl) rfl rfl ?_
  refine z_op (ck_at dt_nodeOf 88 rfl) rfl (o_const _) ?_
  refine z_op (ck_at dt_nodeOf 89 rfl) rfl (o_const _) ?_
  refine z_ldk (ok := q_isA) (n := 0) (ck_at dt_nodeOf 90 rfl) rfl rfl (fun _ => rfl) rfl rfl ?_
  refine z_getR (j := 19) (a := 14) (ck_at dt_nodeOf 91 rfl) own_nodeOf (mf_at 15 rfl) (by decide) rfl rfl ?_
  refine z_ldk (ok := q_isI) (n := 1) (ck_at dt_nodeOf 92 rfl) rfl rfl (fun _ => rfl) rfl rfl ?_
  refine z_iald (j := 19) (n := 3000) (ck_at dt_nodeOf 93 rfl) rfl rfl rfl p1 p2 ?_
  refine z_op (ck_at dt_nodeOf 94 rfl) rfl o_imul ?_
  refine z_op (ck_at dt_nodeOf 95 rfl) rfl (o_const _) ?_
  refine z_op (ck_at dt_nodeOf 96 rfl) rfl o_iadd ?_
  refine z_op (ck_at dt_nodeOf 97 rfl) rfl (o_const _) ?_
  refine z_op (ck_at dt_nodeOf 98 rfl) rfl (o_const _) ?_
  refine z_virt (k' := k_later) (n := 0) (as := [iv 3, iv ((2 * (B 19 x1)) + 1), iv 0, iv 0]) (r := []) (ck_at dt_nodeOf 99 rfl) own_nodeOf (mm_at 32 rfl) vk_later rfl nl_later rfl rfl rfl rfl ?_
  exact w.mono (Nat.le_refl _) (fun o B' ⟨ho, w⟩ => ⟨none, ho, z_wk (r_nodeOf_150_ok hm w) ⟨rfl, ⟨rfl, trivial⟩⟩⟩)
def r_nodeOf_110 (m : Nat) (h0 : qH) (d : Nat) (B : qB) (Q : qO → qB → Prop) : Prop := Q (.inl none) B
theorem r_nodeOf_110_ok {m : Nat} {h0 : qH} {d : Nat} {B : qB} {Q : qO → qB → Prop} (hm : m + 100 < 1000000000) (w : r_nodeOf_110 m h0 d B Q) : qZ m h0 (d + 1) k_nodeOf 110 [none, none, none, none] [] B Q := by
  unfold r_nodeOf_110 at w
  refine z_goto (t := 337) (ck_at dt_nodeOf 72 rfl) rfl ?_
  exact z_ret0 (ck_at dt_nodeOf 208 rfl) rt_nodeOf w
def r_nodeOf_97 (m : Nat) (h0 : qH) (d : Nat) (x1 : Int) (B : qB) (Q : qO → qB → Prop) : Prop := 0 ≤ x1 ∧ x1 < 3000 ∧ qZ m h0 d k_later 0 [some (.ref m), some (iv 0), some (iv (B 18 x1)), some (iv 0), some (iv 0)] [] B (fun o B' => o = .inl none ∧ r_nodeOf_110 m h0 d B' Q)
theorem r_nodeOf_97_ok {m : Nat} {h0 : qH} {d : Nat} {x1 : Int} {B : qB} {Q : qO → qB → Prop} (hm : m + 100 < 1000000000) (w : r_nodeOf_97 m h0 d x1 B Q) : qZ m h0 (d + 1) k_nodeOf 97 [some (.ref m), some (iv x1), none, none] [] B Q := by
  unfold r_nodeOf_97 at w
  obtain ⟨p1, p2, w⟩ := w
  refine z_ldk (ok := q_isA) (n := 0) (ck_at dt_nodeOf 63 rfl) rfl rfl (fun _ => rfl) rfl rfl ?_
  refine z_op (ck_at dt_nodeOf 64 rfl) rfl (o_const _) ?_
  refine z_ldk (ok := q_isA) (n := 0) (ck_at dt_nodeOf 65 rfl) rfl rfl (fun _ => rfl) rfl rfl ?_
  refine z_getR (j := 18) (a := 13) (ck_at dt_nodeOf 66 rfl) own_nodeOf (mf_at 14 rfl) (by decide) rfl rfl ?_
  refine z_ldk (ok := q_isI) (n := 1) (ck_at dt_nodeOf 67 rfl) rfl rfl (fun _ => rfl) rfl rfl ?_
  refine z_iald (j := 18) (n := 3000) (ck_at dt_nodeOf 68 rfl) rfl rfl rfl p1 p2 ?_
  refine z_op (ck_at dt_nodeOf 69 rfl) rfl (o_const _) ?_
  refine z_op (ck_at dt_nodeOf 70 rfl) rfl (o_const _) ?_
  refine z_virt (k' := k_later) (n := 0) (as := [iv 0, iv (B 18 x1), iv 0, iv 0]) (r := []) (ck_at dt_nodeOf 71 rfl) own_nodeOf (mm_at 32 rfl) vk_later rfl nl_later rfl rfl rfl rfl ?_
  exact w.mono (Nat.le_refl _) (fun o B' ⟨ho, w⟩ => ⟨none, ho, z_wk (r_nodeOf_110_ok hm w) trivial⟩)
def r_nodeOf_73 (m : Nat) (h0 : qH) (d : Nat) (x1 s0 : Int) (B : qB) (Q : qO → qB → Prop) : Prop := 0 ≤ s0 ∧ s0 < 6000 ∧ 0 ≤ x1 ∧ x1 < 3000 ∧ qZ m h0 d k_later 0 [some (.ref m), some (iv 1), some (iv s0), some (iv (B 19 x1)), some (iv 0)] [] (u2 B 43 s0 (B 46 0)) (fun o B' => o = .inl none ∧ r_nodeOf_97 m h0 d x1 B' Q)
theorem r_nodeOf_73_ok {m : Nat} {h0 : qH} {d : Nat} {x1 s0 : Int} {B : qB} {Q : qO → qB → Prop} (hm : m + 100 < 1000000000) (w : r_nodeOf_73 m h0 d x1 s0 B Q) : qZ m h0 (d + 1) k_nodeOf 73 [some (.ref m), some (iv x1), none, none] [iv s0] B Q := by
  unfold r_nodeOf_73 at w
  obtain ⟨p1, p2, p3, p4, w⟩ := w
  refine z_st1 (ok := q_isI) (n := 3) (L' := [some (.ref m), some (iv x1), none, some (iv s0)]) (ck_at dt_nodeOf 47 rfl) rfl (fun _ => rfl) (fun _ _ => rfl) rfl nl_nodeOf (by decide) trivial rfl ?_
  refine z_ldk (ok := q_isA) (n := 0) (ck_at dt_nodeOf 48 rfl) rfl rfl (fun _ => rfl) rfl rfl ?_
  refine z_getR (j := 43) (a := 29) (ck_at dt_nodeOf 49 rfl) own_nodeOf (mf_at 30 rfl) (by decide) rfl rfl ?_
  refine z_ldk (ok := q_isI) (n := 3) (ck_at dt_nodeOf 50 rfl) rfl rfl (fun _ => rfl) rfl rfl ?_
  refine z_ldk (ok := q_isA) (n := 0) (ck_at dt_nodeOf 51 rfl) rfl rfl (fun _ => rfl) rfl rfl ?_
  refine z_getI (j := 46) (ck_at dt_nodeOf 52 rfl) own_nodeOf (mf_at 61 rfl) (by decide) rfl ?_
  refine z_iast (j := 43) (n := 6000) hm (ck_at dt_nodeOf 53 rfl) rfl rfl rfl p1 p2 ?_
  refine z_ldk (ok := q_isA) (n := 0) (ck_at dt_nodeOf 54 rfl) rfl rfl (fun _ => rfl) rfl rfl ?_
  refine z_op (ck_at dt_nodeOf 55 rfl) rfl (o_const _) ?_
  refine z_ldk (ok := q_isI) (n := 3) (ck_at dt_nodeOf 56 rfl) rfl rfl (fun _ => rfl) rfl rfl ?_
  refine z_ldk (ok := q_isA) (n := 0) (ck_at dt_nodeOf 57 rfl) rfl rfl (fun _ => rfl) rfl rfl ?_
  refine z_getR (j := 19) (a := 14) (ck_at dt_nodeOf 58 rfl) own_nodeOf (mf_at 15 rfl) (by decide) rfl rfl ?_
  refine z_ldk (ok := q_isI) (n := 1) (ck_at dt_nodeOf 59 rfl) rfl rfl (fun _ => rfl) rfl rfl ?_
  refine z_iald (j := 19) (n := 3000) (ck_at dt_nodeOf 60 rfl) rfl rfl rfl p3 p4 ?_
  refine z_op (ck_at dt_nodeOf 61 rfl) rfl (o_const _) ?_
  refine z_virt (k' := k_later) (n := 0) (as := [iv 1, iv s0, iv (B 19 x1), iv 0]) (r := []) (ck_at dt_nodeOf 62 rfl) own_nodeOf (mm_at 32 rfl) vk_later rfl nl_later rfl rfl rfl rfl ?_
  exact w.mono (Nat.le_refl _) (fun o B' ⟨ho, w⟩ => ⟨none, ho, z_wk (r_nodeOf_97_ok hm w) ⟨rfl, ⟨rfl, trivial⟩⟩⟩)
def r_nodeOf_58 (m : Nat) (h0 : qH) (d : Nat) (B : qB) (Q : qO → qB → Prop) : Prop := Q (.inl none) B
theorem r_nodeOf_58_ok {m : Nat} {h0 : qH} {d : Nat} {B : qB} {Q : qO → qB → Prop} (hm : m + 100 < 1000000000) (w : r_nodeOf_58 m h0 d B Q) : qZ m h0 (d + 1) k_nodeOf 58 [none, none, none, none] [] B Q := by
  unfold r_nodeOf_58 at w
  refine z_goto (t := 337) (ck_at dt_nodeOf 38 rfl) rfl ?_
  exact z_ret0 (ck_at dt_nodeOf 208 rfl) rt_nodeOf w
def r_nodeOf_45 (m : Nat) (h0 : qH) (d : Nat) (x1 : Int) (B : qB) (Q : qO → qB → Prop) : Prop := 0 ≤ x1 ∧ x1 < 3000 ∧ qZ m h0 d k_later 0 [some (.ref m), some (iv 0), some (iv (B 18 x1)), some (iv 0), some (iv 0)] [] B (fun o B' => o = .inl none ∧ r_nodeOf_58 m h0 d B' Q)
theorem r_nodeOf_45_ok {m : Nat} {h0 : qH} {d : Nat} {x1 : Int} {B : qB} {Q : qO → qB → Prop} (hm : m + 100 < 1000000000) (w : r_nodeOf_45 m h0 d x1 B Q) : qZ m h0 (d + 1) k_nodeOf 45 [some (.ref m), some (iv x1), none, none] [] B Q := by
  unfold r_nodeOf_45 at w
  obtain ⟨p1, p2, w⟩ := w
  refine z_ldk (ok := q_isA) (n := 0) (ck_at dt_nodeOf 29 rfl) rfl rfl (fun _ => rfl) rfl rfl ?_
  refine z_op (ck_at dt_nodeOf 30 rfl) rfl (o_const _) ?_
  refine z_ldk (ok := q_isA) (n := 0) (ck_at dt_nodeOf 31 rfl) rfl rfl (fun _ => rfl) rfl rfl ?_
  refine z_getR (j := 18) (a := 13) (ck_at dt_nodeOf 32 rfl) own_nodeOf (mf_at 14 rfl) (by decide) rfl rfl ?_
  refine z_ldk (ok := q_isI) (n := 1) (ck_at dt_nodeOf 33 rfl) rfl rfl (fun _ => rfl) rfl rfl ?_
  refine z_iald (j := 18) (n := 3000) (ck_at dt_nodeOf 34 rfl) rfl rfl rfl p1 p2 ?_
  refine z_op (ck_at dt_nodeOf 35 rfl) rfl (o_const _) ?_
  refine z_op (ck_at dt_nodeOf 36 rfl) rfl (o_const _) ?_
  refine z_virt (k' := k_later) (n := 0) (as := [iv 0, iv (B 18 x1), iv 0, iv 0]) (r := []) (ck_at dt_nodeOf 37 rfl) own_nodeOf (mm_at 32 rfl) vk_later rfl nl_later rfl rfl rfl rfl ?_
  exact w.mono (Nat.le_refl _) (fun o B' ⟨ho, w⟩ => ⟨none, ho, z_wk (r_nodeOf_58_ok hm w) trivial⟩)
def r_nodeOf_23 (m : Nat) (h0 : qH) (d : Nat) (s0 : Int) (B : qB) (Q : qO → qB → Prop) : Prop := Q (.inl none) B
theorem r_nodeOf_23_ok {m : Nat} {h0 : qH} {d : Nat} {s0 : Int} {B : qB} {Q : qO → qB → Prop} (hm : m + 100 < 1000000000) (w : r_nodeOf_23 m h0 d s0 B Q) : qZ m h0 (d + 1) k_nodeOf 23 [none, none, none, none] [iv s0] B Q := by
  unfold r_nodeOf_23 at w
  refine z_op (ck_at dt_nodeOf 15 rfl) rfl rfl ?_
  refine z_goto (t := 337) (ck_at dt_nodeOf 16 rfl) rfl ?_
  exact z_ret0 (ck_at dt_nodeOf 208 rfl) rt_nodeOf w
def r_nodeOf_0 (m : Nat) (h0 : qH) (d : Nat) (x1 : Int) (B : qB) (Q : qO → qB → Prop) : Prop := 0 ≤ x1 ∧ x1 < 3000 ∧ R32 (B 17 x1) ∧ (¬ B 17 x1 = 0 → (¬ B 17 x1 = 1 → (¬ B 17 x1 = 2 → (¬ B 17 x1 = 4 → (B 17 x1 = 5 → r_nodeOf_192 m h0 d x1 (B 17 x1) B Q) ∧ (¬ B 17 x1 = 5 → (B 17 x1 = 6 → r_nodeOf_192 m h0 d x1 (B 17 x1) B Q) ∧ (¬ B 17 x1 = 6 → (¬ B 17 x1 = 3 → r_nodeOf_268 m h0 d x1 (B 17 x1) B Q) ∧ (B 17 x1 = 3 → R32 (B 22 x1) ∧ (¬ B 22 x1 = 2 → r_nodeOf_268 m h0 d x1 (B 17 x1) B Q) ∧ (B 22 x1 = 2 → r_nodeOf_192 m h0 d x1 (B 17 x1) B Q))))) ∧ (B 17 x1 = 4 → qZ m h0 d k_emit 0 [some (.ref m), some (iv 3), some (iv (2 * (B 19 x1))), some (iv 0), none] [] B (fun o B' => ∃ v : Int, o = .inl (some (iv v)) ∧ r_nodeOf_132 m h0 d x1 v B' Q))) ∧ (B 17 x1 = 2 → qZ m h0 d k_emit 0 [some (.ref m), some (iv 1), some (iv 0), some (iv 0), none] [] B (fun o B' => ∃ v : Int, o = .inl (some (iv v)) ∧ r_nodeOf_73 m h0 d x1 v B' Q))) ∧ (B 17 x1 = 1 → qZ m h0 d k_later 0 [some (.ref m), some (iv 0), some (iv (B 19 x1)), some (iv 0), some (iv 0)] [] B (fun o B' => o = .inl none ∧ r_nodeOf_45 m h0 d x1 B' Q))) ∧ (B 17 x1 = 0 → qZ m h0 d k_emit 0 [some (.ref m), some (iv 0), some (iv (B 23 x1)), some (iv 0), none] [] B (fun o B' => ∃ v : Int, o = .inl (some (iv v)) ∧ r_nodeOf_23 m h0 d v B' Q))
theorem r_nodeOf_0_ok {m : Nat} {h0 : qH} {d : Nat} {x1 : Int} {B : qB} {Q : qO → qB → Prop} (hm : m + 100 < 1000000000) (w : r_nodeOf_0 m h0 d x1 B Q) : qZ m h0 (d + 1) k_nodeOf 0 [some (.ref m), some (iv x1), none, none] [] B Q := by
  unfold r_nodeOf_0 at w
  obtain ⟨p1, p2, p3, w⟩ := w
  refine z_ldk (ok := q_isA) (n := 0) (ck_at dt_nodeOf 0 rfl) rfl rfl (fun _ => rfl) rfl rfl ?_
  refine z_getR (j := 17) (a := 12) (ck_at dt_nodeOf 1 rfl) own_nodeOf (mf_at 13 rfl) (by decide) rfl rfl ?_
  refine z_ldk (ok := q_isI) (n := 1) (ck_at dt_nodeOf 2 rfl) rfl rfl (fun _ => rfl) rfl rfl ?_
  refine z_iald (j := 17) (n := 3000) (ck_at dt_nodeOf 3 rfl) rfl rfl rfl p1 p2 ?_
  refine z_st1 (ok := q_isI) (n := 2) (L' := [some (.ref m), some (iv x1), some (iv (B 17 x1)), none]) (ck_at dt_nodeOf 4 rfl) rfl (fun _ => rfl) (fun _ _ => rfl) rfl nl_nodeOf (by decide) rfl rfl ?_
  refine z_ldk (ok := q_isI) (n := 2) (ck_at dt_nodeOf 5 rfl) rfl rfl (fun _ => rfl) rfl rfl ?_
  refine z_ifz (t := 27) (ck_at dt_nodeOf 6 rfl) rfl p3 ?_ ?_
  · intro q; have w := w.1 q
    refine z_ldk (ok := q_isI) (n := 2) (ck_at dt_nodeOf 17 rfl) rfl rfl (fun _ => rfl) rfl rfl ?_
    refine z_op (ck_at dt_nodeOf 18 rfl) rfl (o_const _) ?_
    refine z_icmp (t := 61) (ck_at dt_nodeOf 19 rfl) rfl p3 ⟨by decide, by decide⟩ ?_ ?_
    · intro q; have w := w.1 q
      refine z_ldk (ok := q_isI) (n := 2) (ck_at dt_nodeOf 39 rfl) rfl rfl (fun _ => rfl) rfl rfl ?_
      refine z_op (ck_at dt_nodeOf 40 rfl) rfl (o_const _) ?_
      refine z_icmp (t := 113) (ck_at dt_nodeOf 41 rfl) rfl p3 ⟨by decide, by decide⟩ ?_ ?_
      · intro q; have w := w.1 q
        refine z_ldk (ok := q_isI) (n := 2) (ck_at dt_nodeOf 73 rfl) rfl rfl (fun _ => rfl) rfl rfl ?_
        refine z_op (ck_at dt_nodeOf 74 rfl) rfl (o_const _) ?_
        refine z_icmp (t := 166) (ck_at dt_nodeOf 75 rfl) rfl p3 ⟨by decide, by decide⟩ ?_ ?_
        · intro q; have w := w.1 q
          refine z_ldk (ok := q_isI) (n := 2) (ck_at dt_nodeOf 110 rfl) rfl rfl (fun _ => rfl) rfl rfl ?_
          refine z_op (ck_at dt_nodeOf 111 rfl) rfl (o_const _) ?_
          refine z_icmp (t := 192) (ck_at dt_nodeOf 112 rfl) rfl p3 ⟨by decide, by decide⟩ ?_ ?_
          · intro q; have w := w.1 q
            exact z_wk (r_nodeOf_192_ok hm w) ⟨rfl, ⟨rfl, ⟨rfl, trivial⟩⟩⟩
          · intro q; have w := w.2 q
            refine z_ldk (ok := q_isI) (n := 2) (ck_at dt_nodeOf 113 rfl) rfl rfl (fun _ => rfl) rfl rfl ?_
            refine z_op (ck_at dt_nodeOf 114 rfl) rfl (o_bipush _ (by decide)) ?_
            refine z_icmp (t := 192) (ck_at dt_nodeOf 115 rfl) rfl p3 ⟨by decide, by decide⟩ ?_ ?_
            · intro q; have w := w.1 q
              exact z_wk (r_nodeOf_192_ok hm w) ⟨rfl, ⟨rfl, ⟨rfl, trivial⟩⟩⟩
            · intro q; have w := w.2 q
              refine z_ldk (ok := q_isI) (n := 2) (ck_at dt_nodeOf 116 rfl) rfl rfl (fun _ => rfl) rfl rfl ?_
              refine z_op (ck_at dt_nodeOf 117 rfl) rfl (o_const _) ?_
              refine z_icmp (t := 268) (ck_at dt_nodeOf 118 rfl) rfl p3 ⟨by decide, by decide⟩ ?_ ?_
              · intro q; have w := w.1 q
                exact z_wk (r_nodeOf_268_ok hm w) ⟨rfl, ⟨rfl, ⟨rfl, trivial⟩⟩⟩
              · intro q; have w := w.2 q
                obtain ⟨p4, w⟩ := w
                refine z_ldk (ok := q_isA) (n := 0) (ck_at dt_nodeOf 119 rfl) rfl rfl (fun _ => rfl) rfl rfl ?_
                refine z_getR (j := 22) (a := 17) (ck_at dt_nodeOf 120 rfl) own_nodeOf (mf_at 18 rfl) (by decide) rfl rfl ?_
                refine z_ldk (ok := q_isI) (n := 1) (ck_at dt_nodeOf 121 rfl) rfl rfl (fun _ => rfl) rfl rfl ?_
                refine z_iald (j := 22) (n := 3000) (ck_at dt_nodeOf 122 rfl) rfl rfl rfl p1 p2 ?_
                refine z_op (ck_at dt_nodeOf 123 rfl) rfl (o_const _) ?_
                refine z_icmp (t := 268) (ck_at dt_nodeOf 124 rfl) rfl p4 ⟨by decide, by decide⟩ ?_ ?_
                · intro q; have w := w.1 q
                  exact z_wk (r_nodeOf_268_ok hm w) ⟨rfl, ⟨rfl, ⟨rfl, trivial⟩⟩⟩
                · intro q; have w := w.2 q
                  exact z_wk (r_nodeOf_192_ok hm w) ⟨rfl, ⟨rfl, ⟨rfl, trivial⟩⟩⟩
        · intro q; have w := w.2 q
          refine z_ldk (ok := q_isA) (n := 0) (ck_at dt_nodeOf 76 rfl) rfl rfl (fun _ => rfl) rfl rfl ?_
          refine z_op (ck_at dt_nodeOf 77 rfl) rfl (o_const _) ?_
          refine z_op (ck_at dt_nodeOf 78 rfl) rfl (o_const _) ?_
          refine z_ldk (ok := q_isA) (n := 0) (ck_at dt_nodeOf 79 rfl) rfl rfl (fun _ => rfl) rfl rfl ?_
          refine z_getR (j := 19) (a := 14) (ck_at dt_nodeOf 80 rfl) own_nodeOf (mf_at 15 rfl) (by decide) rfl rfl ?_
          refine z_ldk (ok := q_isI) (n := 1) (ck_at dt_nodeOf 81 rfl) rfl rfl (fun _ => rfl) rfl rfl ?_
          refine z_iald (j := 19) (n := 3000) (ck_at dt_nodeOf 82 rfl) rfl rfl rfl p1 p2 ?_
          refine z_op (ck_at dt_nodeOf 83 rfl) rfl o_imul ?_
          refine z_op (ck_at dt_nodeOf 84 rfl) rfl (o_const _) ?_
          refine z_virt (k' := k_emit) (n := 1) (as := [iv 3, iv (2 * (B 19 x1)), iv 0]) (r := []) (ck_at dt_nodeOf 85 rfl) own_nodeOf (mm_at 30 rfl) vk_emit rfl nl_emit rfl rfl rfl rfl ?_
          exact w.mono (Nat.le_refl _) (fun o B' ⟨v, ho, w⟩ => ⟨some (iv v), ho, z_wk (r_nodeOf_132_ok hm w) ⟨rfl, ⟨rfl, trivial⟩⟩⟩)
      · intro q; have w := w.2 q
        refine z_ldk (ok := q_isA) (n := 0) (ck_at dt_nodeOf 42 rfl) rfl rfl (fun _ => rfl) rfl rfl ?_
        refine z_op (ck_at dt_nodeOf 43 rfl) rfl (o_const _) ?_
        refine z_op (ck_at dt_nodeOf 44 rfl) rfl (o_const _) ?_
        refine z_op (ck_at dt_nodeOf 45 rfl) rfl (o_const _) ?_
        refine z_virt (k' := k_emit) (n := 1) (as := [iv 1, iv 0, iv 0]) (r := []) (ck_at dt_nodeOf 46 rfl) own_nodeOf (mm_at 30 rfl) vk_emit rfl nl_emit rfl rfl rfl rfl ?_
        exact w.mono (Nat.le_refl _) (fun o B' ⟨v, ho, w⟩ => ⟨some (iv v), ho, z_wk (r_nodeOf_73_ok hm w) ⟨rfl, ⟨rfl, trivial⟩⟩⟩)
    · intro q; have w := w.2 q
      refine z_ldk (ok := q_isA) (n := 0) (ck_at dt_nodeOf 20 rfl) rfl rfl (fun _ => rfl) rfl rfl ?_
      refine z_op (ck_at dt_nodeOf 21 rfl) rfl (o_const _) ?_
      refine z_ldk (ok := q_isA) (n := 0) (ck_at dt_nodeOf 22 rfl) rfl rfl (fun _ => rfl) rfl rfl ?_
      refine z_getR (j := 19) (a := 14) (ck_at dt_nodeOf 23 rfl) own_nodeOf (mf_at 15 rfl) (by decide) rfl rfl ?_
      refine z_ldk (ok := q_isI) (n := 1) (ck_at dt_nodeOf 24 rfl) rfl rfl (fun _ => rfl) rfl rfl ?_
      refine z_iald (j := 19) (n := 3000) (ck_at dt_nodeOf 25 rfl) rfl rfl rfl p1 p2 ?_
      refine z_op (ck_at dt_nodeOf 26 rfl) rfl (o_const _) ?_
      refine z_op (ck_at dt_nodeOf 27 rfl) rfl (o_const _) ?_
      refine z_virt (k' := k_later) (n := 0) (as := [iv 0, iv (B 19 x1), iv 0, iv 0]) (r := []) (ck_at dt_nodeOf 28 rfl) own_nodeOf (mm_at 32 rfl) vk_later rfl nl_later rfl rfl rfl rfl ?_
      exact w.mono (Nat.le_refl _) (fun o B' ⟨ho, w⟩ => ⟨none, ho, z_wk (r_nodeOf_45_ok hm w) ⟨rfl, ⟨rfl, trivial⟩⟩⟩)
  · intro q; have w := w.2 q
    refine z_ldk (ok := q_isA) (n := 0) (ck_at dt_nodeOf 7 rfl) rfl rfl (fun _ => rfl) rfl rfl ?_
    refine z_op (ck_at dt_nodeOf 8 rfl) rfl (o_const _) ?_
    refine z_ldk (ok := q_isA) (n := 0) (ck_at dt_nodeOf 9 rfl) rfl rfl (fun _ => rfl) rfl rfl ?_
    refine z_getR (j := 23) (a := 18) (ck_at dt_nodeOf 10 rfl) own_nodeOf (mf_at 19 rfl) (by decide) rfl rfl ?_
    refine z_ldk (ok := q_isI) (n := 1) (ck_at dt_nodeOf 11 rfl) rfl rfl (fun _ => rfl) rfl rfl ?_
    refine z_iald (j := 23) (n := 3000) (ck_at dt_nodeOf 12 rfl) rfl rfl rfl p1 p2 ?_
    refine z_op (ck_at dt_nodeOf 13 rfl) rfl (o_const _) ?_
    refine z_virt (k' := k_emit) (n := 1) (as := [iv 0, iv (B 23 x1), iv 0]) (r := []) (ck_at dt_nodeOf 14 rfl) own_nodeOf (mm_at 30 rfl) vk_emit rfl nl_emit rfl rfl rfl rfl ?_
    exact w.mono (Nat.le_refl _) (fun o B' ⟨v, ho, w⟩ => ⟨some (iv v), ho, z_wk (r_nodeOf_23_ok hm w) trivial⟩)
/-! prepare(II)V -/
def t_prepare : List (Nat × Instr × Nat) := [(0, .aload_n 0, 1), (1, .iload_n 1, 1), (2, .invokevirtual 371, 3), (5, .aload_n 0, 1), (6, .iconst 0, 1), (7, .putfield 283, 3), (10, .aload_n 0, 1), (11, .iconst 0, 1), (12, .putfield 308, 3), (15, .aload_n 0, 1), (16, .iconst 0, 1), (17, .putfield 286, 3), (20, .aload_n 0, 1), (21, .iconst 0, 1), (22, .putfield 292, 3), (25, .aload_n 0, 1), (26, .getfield 127, 3), (29, .iconst 0, 1), (30, .iconst 0, 1), (31, .iastore, 1), (32, .aload_n 0, 1), (33, .iconst (-1), 1), (34, .putfield 289, 3), (37, .aload_n 0, 1), (38, .invokevirtual 374, 3), (41, .aload_n 0, 1), (42, .bipush 11, 2), (44, .iconst 0, 1), (45, .iconst 0, 1), (46, .invokevirtual 305, 3), (49, .pop, 1), (50, .aload_n 0, 1), (51, .aload_n 0, 1), (52, .getfield 32, 3), (55, .iload_n 2, 1), (56, .iaload, 1), (57, .putfield 324, 3), (60, .aload_n 0, 1), (61, .sipush 1000, 3), (64, .iload_n 2, 1), (65, .imul, 1), (66, .putfield 327, 3), (69, .aload_n 0, 1), (70, .invokevirtual 377, 3), (73, .return_, 1)]
set_option maxRecDepth 100000 in
theorem dt_prepare : q_ck k_prepare t_prepare = true := by decide +kernel
def r_prepare_73 (m : Nat) (h0 : qH) (d : Nat) (B : qB) (Q : qO → qB → Prop) : Prop := Q (.inl none) B
theorem r_prepare_73_ok {m : Nat} {h0 : qH} {d : Nat} {B : qB} {Q : qO → qB → Prop} (hm : m + 100 < 1000000000) (w : r_prepare_73 m h0 d B Q) : qZ m h0 (d + 1) k_prepare 73 [none, none, none] [] B Q := by
  unfold r_prepare_73 at w
  exact z_ret0 (ck_at dt_prepare 44 rfl) rt_prepare w
def r_prepare_49 (m : Nat) (h0 : qH) (d : Nat) (x2 s0 : Int) (B : qB) (Q : qO → qB → Prop) : Prop := 0 ≤ x2 ∧ x2 < 4 ∧ qZ m h0 d k_newSearch 0 [some (.ref m)] [] (u2 (u2 B 57 0 (B 9 x2)) 58 0 (1000 * x2)) (fun o B' => o = .inl none ∧ r_prepare_73 m h0 d B' Q)
theorem r_prepare_49_ok {m : Nat} {h0 : qH} {d : Nat} {x2 s0 : Int} {B : qB} {Q : qO → qB → Prop} (hm : m + 100 < 1000000000) (w : r_prepare_49 m h0 d x2 s0 B Q) : qZ m h0 (d + 1) k_prepare 49 [some (.ref m), none, some (iv x2)] [iv s0] B Q := by
  unfold r_prepare_49 at w
  obtain ⟨p1, p2, w⟩ := w
  refine z_op (ck_at dt_prepare 30 rfl) rfl rfl ?_
  refine z_ldk (ok := q_isA) (n := 0) (ck_at dt_prepare 31 rfl) rfl rfl (fun _ => rfl) rfl rfl ?_
  refine z_ldk (ok := q_isA) (n := 0) (ck_at dt_prepare 32 rfl) rfl rfl (fun _ => rfl) rfl rfl ?_
  refine z_getR (j := 9) (a := 6) (ck_at dt_prepare 33 rfl) own_prepare (mf_at 7 rfl) (by decide) rfl rfl ?_
  refine z_ldk (ok := q_isI) (n := 2) (ck_at dt_prepare 34 rfl) rfl rfl (fun _ => rfl) rfl rfl ?_
  refine z_iald (j := 9) (n := 4) (ck_at dt_prepare 35 rfl) rfl rfl rfl p1 p2 ?_
  refine z_putI (j := 57) hm (ck_at dt_prepare 36 rfl) own_prepare (mf_at 66 rfl) (by decide) rfl rfl rfl ?_
  refine z_ldk (ok := q_isA) (n := 0) (ck_at dt_prepare 37 rfl) rfl rfl (fun _ => rfl) rfl rfl ?_
  refine z_op (ck_at dt_prepare 38 rfl) rfl (o_sipush _ (by decide)) ?_
  refine z_ldk (ok := q_isI) (n := 2) (ck_at dt_prepare 39 rfl) rfl rfl (fun _ => rfl) rfl rfl ?_
  refine z_op (ck_at dt_prepare 40 rfl) rfl o_imul ?_
  refine z_putI (j := 58) hm (ck_at dt_prepare 41 rfl) own_prepare (mf_at 67 rfl) (by decide) rfl rfl rfl ?_
  refine z_ldk (ok := q_isA) (n := 0) (ck_at dt_prepare 42 rfl) rfl rfl (fun _ => rfl) rfl rfl ?_
  refine z_virt (k' := k_newSearch) (n := 0) (as := []) (r := []) (ck_at dt_prepare 43 rfl) own_prepare (mm_at 31 rfl) vk_newSearch rfl nl_newSearch rfl rfl rfl rfl ?_
  exact w.mono (Nat.le_refl _) (fun o B' ⟨ho, w⟩ => ⟨none, ho, z_wk (r_prepare_73_ok hm w) trivial⟩)
def r_prepare_41 (m : Nat) (h0 : qH) (d : Nat) (x2 : Int) (B : qB) (Q : qO → qB → Prop) : Prop := qZ m h0 d k_emit 0 [some (.ref m), some (iv 11), some (iv 0), some (iv 0), none] [] B (fun o B' => ∃ v : Int, o = .inl (some (iv v)) ∧ r_prepare_49 m h0 d x2 v B' Q)
theorem r_prepare_41_ok {m : Nat} {h0 : qH} {d : Nat} {x2 : Int} {B : qB} {Q : qO → qB → Prop} (hm : m + 100 < 1000000000) (w : r_prepare_41 m h0 d x2 B Q) : qZ m h0 (d + 1) k_prepare 41 [some (.ref m), none, some (iv x2)] [] B Q := by
  unfold r_prepare_41 at w
  refine z_ldk (ok := q_isA) (n := 0) (ck_at dt_prepare 25 rfl) rfl rfl (fun _ => rfl) rfl rfl ?_
  refine z_op (ck_at dt_prepare 26 rfl) rfl (o_bipush _ (by decide)) ?_
  refine z_op (ck_at dt_prepare 27 rfl) rfl (o_const _) ?_
  refine z_op (ck_at dt_prepare 28 rfl) rfl (o_const _) ?_
  refine z_virt (k' := k_emit) (n := 1) (as := [iv 11, iv 0, iv 0]) (r := []) (ck_at dt_prepare 29 rfl) own_prepare (mm_at 30 rfl) vk_emit rfl nl_emit rfl rfl rfl rfl ?_
  exact w.mono (Nat.le_refl _) (fun o B' ⟨v, ho, w⟩ => ⟨some (iv v), ho, z_wk (r_prepare_49_ok hm w) ⟨rfl, ⟨rfl, trivial⟩⟩⟩)
def r_prepare_5 (m : Nat) (h0 : qH) (d : Nat) (x2 : Int) (B : qB) (Q : qO → qB → Prop) : Prop := qZ m h0 d k_compile 0 [some (.ref m), none, none, none, none, none, none] [] (u2 (u2 (u2 (u2 (u2 (u2 B 46 0 0) 47 0 0) 48 0 0) 56 0 0) 54 0 0) 55 0 (-1)) (fun o B' => o = .inl none ∧ r_prepare_41 m h0 d x2 B' Q)
theorem r_prepare_5_ok {m : Nat} {h0 : qH} {d : Nat} {x2 : Int} {B : qB} {Q : qO → qB → Prop} (hm : m + 100 < 1000000000) (w : r_prepare_5 m h0 d x2 B Q) : qZ m h0 (d + 1) k_prepare 5 [some (.ref m), none, some (iv x2)] [] B Q := by
  unfold r_prepare_5 at w
  refine z_ldk (ok := q_isA) (n := 0) (ck_at dt_prepare 3 rfl) rfl rfl (fun _ => rfl) rfl rfl ?_
  refine z_op (ck_at dt_prepare 4 rfl) rfl (o_const _) ?_
  refine z_putI (j := 46) hm (ck_at dt_prepare 5 rfl) own_prepare (mf_at 61 rfl) (by decide) rfl rfl rfl ?_
  refine z_ldk (ok := q_isA) (n := 0) (ck_at dt_prepare 6 rfl) rfl rfl (fun _ => rfl) rfl rfl ?_
  refine z_op (ck_at dt_prepare 7 rfl) rfl (o_const _) ?_
  refine z_putI (j := 47) hm (ck_at dt_prepare 8 rfl) own_prepare (mf_at 62 rfl) (by decide) rfl rfl rfl ?_
  refine z_ldk (ok := q_isA) (n := 0) (ck_at dt_prepare 9 rfl) rfl rfl (fun _ => rfl) rfl rfl ?_
  refine z_op (ck_at dt_prepare 10 rfl) rfl (o_const _) ?_
  refine z_putI (j := 48) hm (ck_at dt_prepare 11 rfl) own_prepare (mf_at 63 rfl) (by decide) rfl rfl rfl ?_
  refine z_ldk (ok := q_isA) (n := 0) (ck_at dt_prepare 12 rfl) rfl rfl (fun _ => rfl) rfl rfl ?_
  refine z_op (ck_at dt_prepare 13 rfl) rfl (o_const _) ?_
  refine z_putI (j := 56) hm (ck_at dt_prepare 14 rfl) own_prepare (mf_at 64 rfl) (by decide) rfl rfl rfl ?_
  refine z_ldk (ok := q_isA) (n := 0) (ck_at dt_prepare 15 rfl) rfl rfl (fun _ => rfl) rfl rfl ?_
  refine z_getR (j := 54) (a := 37) (ck_at dt_prepare 16 rfl) own_prepare (mf_at 38 rfl) (by decide) rfl rfl ?_
  refine z_op (ck_at dt_prepare 17 rfl) rfl (o_const _) ?_
  refine z_op (ck_at dt_prepare 18 rfl) rfl (o_const _) ?_
  refine z_iast (j := 54) (n := 2001) hm (ck_at dt_prepare 19 rfl) rfl rfl rfl (by decide) (by decide) ?_
  refine z_ldk (ok := q_isA) (n := 0) (ck_at dt_prepare 20 rfl) rfl rfl (fun _ => rfl) rfl rfl ?_
  refine z_op (ck_at dt_prepare 21 rfl) rfl (o_const _) ?_
  refine z_putI (j := 55) hm (ck_at dt_prepare 22 rfl) own_prepare (mf_at 65 rfl) (by decide) rfl rfl rfl ?_
  refine z_ldk (ok := q_isA) (n := 0) (ck_at dt_prepare 23 rfl) rfl rfl (fun _ => rfl) rfl rfl ?_
  refine z_virt (k' := k_compile) (n := 6) (as := []) (r := []) (ck_at dt_prepare 24 rfl) own_prepare (mm_at 29 rfl) vk_compile rfl nl_compile rfl rfl rfl rfl ?_
  exact w.mono (Nat.le_refl _) (fun o B' ⟨ho, w⟩ => ⟨none, ho, z_wk (r_prepare_41_ok hm w) ⟨rfl, ⟨rfl, trivial⟩⟩⟩)
def r_prepare_0 (m : Nat) (h0 : qH) (d : Nat) (x1 x2 : Int) (B : qB) (Q : qO → qB → Prop) : Prop := qZ m h0 d k_again 0 [some (.ref m), some (iv x1), none] [] B (fun o B' => o = .inl none ∧ r_prepare_5 m h0 d x2 B' Q)
theorem r_prepare_0_ok {m : Nat} {h0 : qH} {d : Nat} {x1 x2 : Int} {B : qB} {Q : qO → qB → Prop} (hm : m + 100 < 1000000000) (w : r_prepare_0 m h0 d x1 x2 B Q) : qZ m h0 (d + 1) k_prepare 0 [some (.ref m), some (iv x1), some (iv x2)] [] B Q := by
  unfold r_prepare_0 at w
  refine z_ldk (ok := q_isA) (n := 0) (ck_at dt_prepare 0 rfl) rfl rfl (fun _ => rfl) rfl rfl ?_
  refine z_ldk (ok := q_isI) (n := 1) (ck_at dt_prepare 1 rfl) rfl rfl (fun _ => rfl) rfl rfl ?_
  refine z_virt (k' := k_again) (n := 1) (as := [iv x1]) (r := []) (ck_at dt_prepare 2 rfl) own_prepare (mm_at 28 rfl) vk_again rfl nl_again rfl rfl rfl rfl ?_
  exact w.mono (Nat.le_refl _) (fun o B' ⟨ho, w⟩ => ⟨none, ho, z_wk (r_prepare_5_ok hm w) ⟨rfl, ⟨rfl, trivial⟩⟩⟩)
/-! newSearch()V -/
def t_newSearch : List (Nat × Instr × Nat) := [(0, .aload_n 0, 1), (1, .iconst 0, 1), (2, .aload_n 0, 1), (3, .getfield 292, 3), (6, .invokevirtual 364, 3), (9, .return_, 1)]
set_option maxRecDepth 100000 in
theorem dt_newSearch : q_ck k_newSearch t_newSearch = true := by decide +kernel
def r_newSearch_9 (m : Nat) (h0 : qH) (d : Nat) (B : qB) (Q : qO → qB → Prop) : Prop := Q (.inl none) B
theorem r_newSearch_9_ok {m : Nat} {h0 : qH} {d : Nat} {B : qB} {Q : qO → qB → Prop} (hm : m + 100 < 1000000000) (w : r_newSearch_9 m h0 d B Q) : qZ m h0 (d + 1) k_newSearch 9 [none] [] B Q := by
  unfold r_newSearch_9 at w
  exact z_ret0 (ck_at dt_newSearch 5 rfl) rt_newSearch w
def r_newSearch_0 (m : Nat) (h0 : qH) (d : Nat) (B : qB) (Q : qO → qB → Prop) : Prop := qZ m h0 d k_clearNotes 0 [some (.ref m), some (iv 0), some (iv (B 56 0)), none, none] [] B (fun o B' => o = .inl none ∧ r_newSearch_9 m h0 d B' Q)
theorem r_newSearch_0_ok {m : Nat} {h0 : qH} {d : Nat} {B : qB} {Q : qO → qB → Prop} (hm : m + 100 < 1000000000) (w : r_newSearch_0 m h0 d B Q) : qZ m h0 (d + 1) k_newSearch 0 [some (.ref m)] [] B Q := by
  unfold r_newSearch_0 at w
  refine z_ldk (ok := q_isA) (n := 0) (ck_at dt_newSearch 0 rfl) rfl rfl (fun _ => rfl) rfl rfl ?_
  refine z_op (ck_at dt_newSearch 1 rfl) rfl (o_const _) ?_
  refine z_ldk (ok := q_isA) (n := 0) (ck_at dt_newSearch 2 rfl) rfl rfl (fun _ => rfl) rfl rfl ?_
  refine z_getI (j := 56) (ck_at dt_newSearch 3 rfl) own_newSearch (mf_at 64 rfl) (by decide) rfl ?_
  refine z_virt (k' := k_clearNotes) (n := 2) (as := [iv 0, iv (B 56 0)]) (r := []) (ck_at dt_newSearch 4 rfl) own_newSearch (mm_at 36 rfl) vk_clearNotes rfl nl_clearNotes rfl rfl rfl rfl ?_
  exact w.mono (Nat.le_refl _) (fun o B' ⟨ho, w⟩ => ⟨none, ho, z_wk (r_newSearch_9_ok hm w) trivial⟩)
/-! clearNotes(II)V -/
def t_clearNotes : List (Nat × Instr × Nat) := [(0, .iload_n 2, 1), (1, .aload_n 0, 1), (2, .getfield 324, 3), (5, .iconst 1, 1), (6, .iadd, 1), (7, .imul, 1), (8, .istore_n 3, 1), (9, .iload_n 1, 1), (10, .aload_n 0, 1), (11, .getfield 324, 3), (14, .iconst 1, 1), (15, .iadd, 1), (16, .imul, 1), (17, .istore 4, 2), (19, .iload 4, 2), (21, .iload_n 3, 1), (22, .if_icmp .ge 67, 3), (25, .iload 4, 2), (27, .bipush 63, 2), (29, .iand, 1), (30, .ifCond .ne 29, 3), (33, .iload 4, 2), (35, .bipush 64, 2), (37, .iadd, 1), (38, .iload_n 3, 1), (39, .if_icmp .gt 20, 3), (42, .aload_n 0, 1), (43, .getfield 147, 3), (46, .iload 4, 2), (48, .bipush 6, 2), (50, .ishr, 1), (51, .lconst 0, 1), (52, .lastore, 1), (53, .iinc 4 63, 3), (56, .goto 27, 3), (59, .aload_n 0, 1), (60, .getfield 147, 3), (63, .iload 4, 2), (65, .bipush 6, 2), (67, .ishr, 1), (68, .dup2, 1), (69, .laload, 1), (70, .lconst 1, 1), (71, .iload 4, 2), (73, .bipush 63, 2), (75, .iand, 1), (76, .lshl, 1), (77, .ldc2_w 275, 3), (80, .lxor, 1), (81, .land, 1), (82, .lastore, 1), (83, .iinc 4 1, 3), (86, .goto (-67), 3), (89, .return_, 1)]
set_option maxRecDepth 100000 in
theorem dt_clearNotes : q_ck k_clearNotes t_clearNotes = true := by decide +kernel
def r_clearNotes_83 (m : Nat) (h0 : qH) (d : Nat) (x3 x4 : Int) (B : qB) (Q : qO → qB → Prop) : Prop := qZ m h0 (d + 1) k_clearNotes 19 [some (.ref m), none, none, some (iv x3), some (iv (x4 + 1))] [] B Q
theorem r_clearNotes_83_ok {m : Nat} {h0 : qH} {d : Nat} {x3 x4 : Int} {B : qB} {Q : qO → qB → Prop} (hm : m + 100 < 1000000000) (w : r_clearNotes_83 m h0 d x3 x4 B Q) : qZ m h0 (d + 1) k_clearNotes 83 [some (.ref m), none, none, some (iv x3), some (iv x4)] [] B Q := by
  unfold r_clearNotes_83 at w
  refine z_iinc (n := 4) (L' := [some (.ref m), none, none, some (iv x3), some (iv (x4 + 1))]) (ck_at dt_clearNotes 51 rfl) rfl nl_clearNotes (by decide) rfl rfl ?_
  refine z_goto (t := 19) (ck_at dt_clearNotes 52 rfl) rfl ?_
  exact z_wk w ⟨rfl, ⟨rfl, ⟨rfl, trivial⟩⟩⟩
def r_clearNotes_59 (m : Nat) (h0 : qH) (d : Nat) (x3 x4 : Int) (B : qB) (Q : qO → qB → Prop) : Prop := 0 ≤ iShr x4 6 ∧ iShr x4 6 < 80000 ∧ r_clearNotes_83 m h0 d x3 x4 (u2 B 67 (iShr x4 6) (lAnd (B 67 (iShr x4 6)) (lXor (lShl 1 (iAnd x4 63)) (-1)))) Q
theorem r_clearNotes_59_ok {m : Nat} {h0 : qH} {d : Nat} {x3 x4 : Int} {B : qB} {Q : qO → qB → Prop} (hm : m + 100 < 1000000000) (w : r_clearNotes_59 m h0 d x3 x4 B Q) : qZ m h0 (d + 1) k_clearNotes 59 [some (.ref m), none, none, some (iv x3), some (iv x4)] [] B Q := by
  unfold r_clearNotes_59 at w
  obtain ⟨p1, p2, w⟩ := w
  refine z_ldk (ok := q_isA) (n := 0) (ck_at dt_clearNotes 35 rfl) rfl rfl (fun _ => rfl) rfl rfl ?_
  refine z_getR (j := 67) (a := 43) (ck_at dt_clearNotes 36 rfl) own_clearNotes (mf_at 44 rfl) (by decide) rfl rfl ?_
  refine z_ldk (ok := q_isI) (n := 4) (ck_at dt_clearNotes 37 rfl) rfl rfl (fun _ => rfl) rfl rfl ?_
  refine z_op (ck_at dt_clearNotes 38 rfl) rfl (o_bipush _ (by decide)) ?_
  refine z_op (ck_at dt_clearNotes 39 rfl) rfl o_ishr ?_
  refine z_op (ck_at dt_clearNotes 40 rfl) rfl rfl ?_
  refine z_lald (j := 67) (n := 80000) (ck_at dt_clearNotes 41 rfl) rfl rfl rfl p1 p2 ?_
  refine z_op (ck_at dt_clearNotes 42 rfl) rfl o_lconst1 ?_
  refine z_ldk (ok := q_isI) (n := 4) (ck_at dt_clearNotes 43 rfl) rfl rfl (fun _ => rfl) rfl rfl ?_
  refine z_op (ck_at dt_clearNotes 44 rfl) rfl (o_bipush _ (by decide)) ?_
  refine z_op (ck_at dt_clearNotes 45 rfl) rfl o_iand ?_
  refine z_op (ck_at dt_clearNotes 46 rfl) rfl o_lshl ?_
  refine z_ldc2 (c := (-1)) (ck_at dt_clearNotes 47 rfl) own_clearNotes (by decide +kernel) ?_
  refine z_op (ck_at dt_clearNotes 48 rfl) rfl o_lxor ?_
  refine z_op (ck_at dt_clearNotes 49 rfl) rfl o_land ?_
  refine z_last (j := 67) (n := 80000) hm (ck_at dt_clearNotes 50 rfl) rfl rfl rfl p1 p2 ?_
  exact z_wk (r_clearNotes_83_ok hm w) ⟨rfl, ⟨rfl, ⟨rfl, trivial⟩⟩⟩
def r_clearNotes_19 (m : Nat) (h0 : qH) (d : Nat) (x3 x4 : Int) (B : qB) (Q : qO → qB → Prop) : Prop := R32 x4 ∧ R32 x3 ∧ (x4 ≥ x3 → Q (.inl none) B) ∧ (x4 < x3 → (¬ iAnd x4 63 = 0 → r_clearNotes_59 m h0 d x3 x4 B Q) ∧ (iAnd x4 63 = 0 → R32 (x4 + 64) ∧ (x4 + 64 > x3 → r_clearNotes_59 m h0 d x3 x4 B Q) ∧ (x4 + 64 ≤ x3 → 0 ≤ iShr x4 6 ∧ iShr x4 6 < 80000 ∧ r_clearNotes_83 m h0 d x3 (x4 + 63) (u2 B 67 (iShr x4 6) 0) Q)))
theorem r_clearNotes_19_ok {m : Nat} {h0 : qH} {d : Nat} {x3 x4 : Int} {B : qB} {Q : qO → qB → Prop} (hm : m + 100 < 1000000000) (w : r_clearNotes_19 m h0 d x3 x4 B Q) : qZ m h0 (d + 1) k_clearNotes 19 [some (.ref m), none, none, some (iv x3), some (iv x4)] [] B Q := by
  unfold r_clearNotes_19 at w
  obtain ⟨p1, p2, w⟩ := w
  refine z_ldk (ok := q_isI) (n := 4) (ck_at dt_clearNotes 14 rfl) rfl rfl (fun _ => rfl) rfl rfl ?_
  refine z_ldk (ok := q_isI) (n := 3) (ck_at dt_clearNotes 15 rfl) rfl rfl (fun _ => rfl) rfl rfl ?_
  refine z_icmp (t := 89) (ck_at dt_clearNotes 16 rfl) rfl p1 p2 ?_ ?_
  · intro q; have w := w.1 q
    exact z_ret0 (ck_at dt_clearNotes 53 rfl) rt_clearNotes w
  · intro q; have w := w.2 q
    refine z_ldk (ok := q_isI) (n := 4) (ck_at dt_clearNotes 17 rfl) rfl rfl (fun _ => rfl) rfl rfl ?_
    refine z_op (ck_at dt_clearNotes 18 rfl) rfl (o_bipush _ (by decide)) ?_
    refine z_op (ck_at dt_clearNotes 19 rfl) rfl o_iand ?_
    refine z_ifz (t := 59) (ck_at dt_clearNotes 20 rfl) rfl (R32_i _) ?_ ?_
    · intro q; have w := w.1 q
      exact z_wk (r_clearNotes_59_ok hm w) ⟨rfl, ⟨rfl, ⟨rfl, trivial⟩⟩⟩
    · intro q; have w := w.2 q
      obtain ⟨p3, w⟩ := w
      refine z_ldk (ok := q_isI) (n := 4) (ck_at dt_clearNotes 21 rfl) rfl rfl (fun _ => rfl) rfl rfl ?_
      refine z_op (ck_at dt_clearNotes 22 rfl) rfl (o_bipush _ (by decide)) ?_
      refine z_op (ck_at dt_clearNotes 23 rfl) rfl o_iadd ?_
      refine z_ldk (ok := q_isI) (n := 3) (ck_at dt_clearNotes 24 rfl) rfl rfl (fun _ => rfl) rfl rfl ?_
      refine z_icmp (t := 59) (ck_at dt_clearNotes 25 rfl) rfl p3 p2 ?_ ?_
      · intro q; have w := w.1 q
        exact z_wk (r_clearNotes_59_ok hm w) ⟨rfl, ⟨rfl, ⟨rfl, trivial⟩⟩⟩
      · intro q; have w := w.2 q
        obtain ⟨p4, p5, w⟩ := w
        refine z_ldk (ok := q_isA) (n := 0) (ck_at dt_clearNotes 26 rfl) rfl rfl (fun _ => rfl) rfl rfl ?_
        refine z_getR (j := 67) (a := 43) (ck_at dt_clearNotes 27 rfl) own_clearNotes (mf_at 44 rfl) (by decide) rfl rfl ?_
        refine z_ldk (ok := q_isI) (n := 4) (ck_at dt_clearNotes 28 rfl) rfl rfl (fun _ => rfl) rfl rfl ?_
        refine z_op (ck_at dt_clearNotes 29 rfl) rfl (o_bipush _ (by decide)) ?_
        refine z_op (ck_at dt_clearNotes 30 rfl) rfl o_ishr ?_
        refine z_op (ck_at dt_clearNotes 31 rfl) rfl o_lconst0 ?_
        refine z_last (j := 67) (n := 80000) hm (ck_at dt_clearNotes 32 rfl) rfl rfl rfl p4 p5 ?_
        refine z_iinc (n := 4) (L' := [some (.ref m), none, none, some (iv x3), some (iv (x4 + 63))]) (ck_at dt_clearNotes 33 rfl) rfl nl_clearNotes (by decide) rfl rfl ?_
        refine z_goto (t := 83) (ck_at dt_clearNotes 34 rfl) rfl ?_
        exact z_wk (r_clearNotes_83_ok hm w) ⟨rfl, ⟨rfl, ⟨rfl, trivial⟩⟩⟩
def r_clearNotes_0 (m : Nat) (h0 : qH) (d : Nat) (x1 x2 : Int) (B : qB) (Q : qO → qB → Prop) : Prop := qZ m h0 (d + 1) k_clearNotes 19 [some (.ref m), none, none, some (iv (x2 * ((B 57 0) + 1))), some (iv (x1 * ((B 57 0) + 1)))] [] B Q
theorem r_clearNotes_0_ok {m : Nat} {h0 : qH} {d : Nat} {x1 x2 : Int} {B : qB} {Q : qO → qB → Prop} (hm : m + 100 < 1000000000) (w : r_clearNotes_0 m h0 d x1 x2 B Q) : qZ m h0 (d + 1) k_clearNotes 0 [some (.ref m), some (iv x1), some (iv x2), none, none] [] B Q := by
  unfold r_clearNotes_0 at w
  refine z_ldk (ok := q_isI) (n := 2) (ck_at dt_clearNotes 0 rfl) rfl rfl (fun _ => rfl) rfl rfl ?_
  refine z_ldk (ok := q_isA) (n := 0) (ck_at dt_clearNotes 1 rfl) rfl rfl (fun _ => rfl) rfl rfl ?_
  refine z_getI (j := 57) (ck_at dt_clearNotes 2 rfl) own_clearNotes (mf_at 66 rfl) (by decide) rfl ?_
  refine z_op (ck_at dt_clearNotes 3 rfl) rfl (o_const _) ?_
  refine z_op (ck_at dt_clearNotes 4 rfl) rfl o_iadd ?_
  refine z_op (ck_at dt_clearNotes 5 rfl) rfl o_imul ?_
  refine z_st1 (ok := q_isI) (n := 3) (L' := [some (.ref m), some (iv x1), some (iv x2), some (iv (x2 * ((B 57 0) + 1))), none]) (ck_at dt_clearNotes 6 rfl) rfl (fun _ => rfl) (fun _ _ => rfl) rfl nl_clearNotes (by decide) rfl rfl ?_
  refine z_ldk (ok := q_isI) (n := 1) (ck_at dt_clearNotes 7 rfl) rfl rfl (fun _ => rfl) rfl rfl ?_
  refine z_ldk (ok := q_isA) (n := 0) (ck_at dt_clearNotes 8 rfl) rfl rfl (fun _ => rfl) rfl rfl ?_
  refine z_getI (j := 57) (ck_at dt_clearNotes 9 rfl) own_clearNotes (mf_at 66 rfl) (by decide) rfl ?_
  refine z_op (ck_at dt_clearNotes 10 rfl) rfl (o_const _) ?_
  refine z_op (ck_at dt_clearNotes 11 rfl) rfl o_iadd ?_
  refine z_op (ck_at dt_clearNotes 12 rfl) rfl o_imul ?_
  refine z_st1 (ok := q_isI) (n := 4) (L' := [some (.ref m), some (iv x1), some (iv x2), some (iv (x2 * ((B 57 0) + 1))), some (iv (x1 * ((B 57 0) + 1)))]) (ck_at dt_clearNotes 13 rfl) rfl (fun _ => rfl) (fun _ _ => rfl) rfl nl_clearNotes (by decide) rfl rfl ?_
  exact z_wk w ⟨rfl, ⟨rfl, ⟨rfl, trivial⟩⟩⟩
/-! isEdge(I)Z -/
def t_isEdge : List (Nat × Instr × Nat) := [(0, .iload_n 1, 1), (1, .ifCond .le 20, 3), (4, .aload_n 0, 1), (5, .iload_n 1, 1), (6, .iconst 1, 1), (7, .isub, 1), (8, .invokevirtual 330, 3), (11, .invokestatic 189, 3), (14, .ifCond .eq 7, 3), (17, .iconst 1, 1), (18, .goto 4, 3), (21, .iconst 0, 1), (22, .istore_n 2, 1), (23, .iload_n 1, 1), (24, .aload_n 0, 1), (25, .getfield 324, 3), (28, .if_icmp .ge 18, 3), (31, .aload_n 0, 1), (32, .iload_n 1, 1), (33, .invokevirtual 330, 3), (36, .invokestatic 189, 3), (39, .ifCond .eq 7, 3), (42, .iconst 1, 1), (43, .goto 4, 3), (46, .iconst 0, 1), (47, .istore_n 3, 1), (48, .iload_n 2, 1), (49, .iload_n 3, 1), (50, .if_icmp .eq 7, 3), (53, .iconst 1, 1), (54, .goto 4, 3), (57, .iconst 0, 1), (58, .ireturn, 1)]
set_option maxRecDepth 100000 in
theorem dt_isEdge : q_ck k_isEdge t_isEdge = true := by decide +kernel
def r_isEdge_47 (m : Nat) (h0 : qH) (d : Nat) (x2 s0 : Int) (B : qB) (Q : qO → qB → Prop) : Prop := R32 x2 ∧ R32 s0 ∧ (x2 = s0 → Q (.inl (some (iv 0))) B) ∧ (¬ x2 = s0 → Q (.inl (some (iv 1))) B)
theorem r_isEdge_47_ok {m : Nat} {h0 : qH} {d : Nat} {x2 s0 : Int} {B : qB} {Q : qO → qB → Prop} (hm : m + 100 < 1000000000) (w : r_isEdge_47 m h0 d x2 s0 B Q) : qZ m h0 (d + 1) k_isEdge 47 [none, none, some (iv x2), none] [iv s0] B Q := by
  unfold r_isEdge_47 at w
  obtain ⟨p1, p2, w⟩ := w
  refine z_st1 (ok := q_isI) (n := 3) (L' := [none, none, some (iv x2), some (iv s0)]) (ck_at dt_isEdge 25 rfl) rfl (fun _ => rfl) (fun _ _ => rfl) rfl nl_isEdge (by decide) rfl rfl ?_
  refine z_ldk (ok := q_isI) (n := 2) (ck_at dt_isEdge 26 rfl) rfl rfl (fun _ => rfl) rfl rfl ?_
  refine z_ldk (ok := q_isI) (n := 3) (ck_at dt_isEdge 27 rfl) rfl rfl (fun _ => rfl) rfl rfl ?_
  refine z_icmp (t := 57) (ck_at dt_isEdge 28 rfl) rfl p1 p2 ?_ ?_
  · intro q; have w := w.1 q
    refine z_op (ck_at dt_isEdge 31 rfl) rfl (o_const _) ?_
    exact z_retZ (ck_at dt_isEdge 32 rfl) rt_isEdge (by decide) w
  · intro q; have w := w.2 q
    refine z_op (ck_at dt_isEdge 29 rfl) rfl (o_const _) ?_
    refine z_goto (t := 58) (ck_at dt_isEdge 30 rfl) rfl ?_
    exact z_retZ (ck_at dt_isEdge 32 rfl) rt_isEdge (by decide) w
def r_isEdge_46 (m : Nat) (h0 : qH) (d : Nat) (x2 : Int) (B : qB) (Q : qO → qB → Prop) : Prop := r_isEdge_47 m h0 d x2 0 B Q
theorem r_isEdge_46_ok {m : Nat} {h0 : qH} {d : Nat} {x2 : Int} {B : qB} {Q : qO → qB → Prop} (hm : m + 100 < 1000000000) (w : r_isEdge_46 m h0 d x2 B Q) : qZ m h0 (d + 1) k_isEdge 46 [none, none, some (iv x2), none] [] B Q := by
  unfold r_isEdge_46 at w
  refine z_op (ck_at dt_isEdge 24 rfl) rfl (o_const _) ?_
  exact z_wk (r_isEdge_47_ok hm w) ⟨rfl, trivial⟩
def r_isEdge_39 (m : Nat) (h0 : qH) (d : Nat) (x2 s0 : Int) (B : qB) (Q : qO → qB → Prop) : Prop := R32 s0 ∧ (s0 = 0 → r_isEdge_46 m h0 d x2 B Q) ∧ (¬ s0 = 0 → r_isEdge_47 m h0 d x2 1 B Q)
theorem r_isEdge_39_ok {m : Nat} {h0 : qH} {d : Nat} {x2 s0 : Int} {B : qB} {Q : qO → qB → Prop} (hm : m + 100 < 1000000000) (w : r_isEdge_39 m h0 d x2 s0 B Q) : qZ m h0 (d + 1) k_isEdge 39 [none, none, some (iv x2), none] [iv s0] B Q := by
  unfold r_isEdge_39 at w
  obtain ⟨p1, w⟩ := w
  refine z_ifz (t := 46) (ck_at dt_isEdge 21 rfl) rfl p1 ?_ ?_
  · intro q; have w := w.1 q
    exact z_wk (r_isEdge_46_ok hm w) ⟨rfl, trivial⟩
  · intro q; have w := w.2 q
    refine z_op (ck_at dt_isEdge 22 rfl) rfl (o_const _) ?_
    refine z_goto (t := 47) (ck_at dt_isEdge 23 rfl) rfl ?_
    exact z_wk (r_isEdge_47_ok hm w) ⟨rfl, trivial⟩
def r_isEdge_36 (m : Nat) (h0 : qH) (d : Nat) (x2 s0 : Int) (B : qB) (Q : qO → qB → Prop) : Prop := qZ m h0 d k_isWord 0 [some (iv s0)] [] B (fun o B' => ∃ v : Int, o = .inl (some (iv v)) ∧ r_isEdge_39 m h0 d x2 v B' Q)
theorem r_isEdge_36_ok {m : Nat} {h0 : qH} {d : Nat} {x2 s0 : Int} {B : qB} {Q : qO → qB → Prop} (hm : m + 100 < 1000000000) (w : r_isEdge_36 m h0 d x2 s0 B Q) : qZ m h0 (d + 1) k_isEdge 36 [none, none, some (iv x2), none] [iv s0] B Q := by
  unfold r_isEdge_36 at w
  refine z_stat (k' := k_isWord) (n := 0) (as := [iv s0]) (r := []) (ck_at dt_isEdge 20 rfl) own_isEdge (mm_at 24 rfl) (ms_at 3 rfl) vk_isWord rfl nl_isWord rfl rfl rfl rfl ?_
  exact w.mono (Nat.le_refl _) (fun o B' ⟨v, ho, w⟩ => ⟨some (iv v), ho, z_wk (r_isEdge_39_ok hm w) ⟨rfl, trivial⟩⟩)
def r_isEdge_22 (m : Nat) (h0 : qH) (d : Nat) (x1 s0 : Int) (B : qB) (Q : qO → qB → Prop) : Prop := R32 x1 ∧ R32 (B 57 0) ∧ (x1 ≥ B 57 0 → r_isEdge_46 m h0 d s0 B Q) ∧ (x1 < B 57 0 → qZ m h0 d k_byteAt 0 [some (.ref m), some (iv x1)] [] B (fun o B' => ∃ v : Int, o = .inl (some (iv v)) ∧ r_isEdge_36 m h0 d s0 v B' Q))
theorem r_isEdge_22_ok {m : Nat} {h0 : qH} {d : Nat} {x1 s0 : Int} {B : qB} {Q : qO → qB → Prop} (hm : m + 100 < 1000000000) (w : r_isEdge_22 m h0 d x1 s0 B Q) : qZ m h0 (d + 1) k_isEdge 22 [some (.ref m), some (iv x1), none, none] [iv s0] B Q := by
  unfold r_isEdge_22 at w
  obtain ⟨p1, p2, w⟩ := w
  refine z_st1 (ok := q_isI) (n := 2) (L' := [some (.ref m), some (iv x1), some (iv s0), none]) (ck_at dt_isEdge 12 rfl) rfl (fun _ => rfl) (fun _ _ => rfl) rfl nl_isEdge (by decide) rfl rfl ?_
  refine z_ldk (ok := q_isI) (n := 1) (ck_at dt_isEdge 13 rfl) rfl rfl (fun _ => rfl) rfl rfl ?_
  refine z_ldk (ok := q_isA) (n := 0) (ck_at dt_isEdge 14 rfl) rfl rfl (fun _ => rfl) rfl rfl ?_
  refine z_getI (j := 57) (ck_at dt_isEdge 15 rfl) own_isEdge (mf_at 66 rfl) (by decide) rfl ?_
  refine z_icmp (t := 46) (ck_at dt_isEdge 16 rfl) rfl p1 p2 ?_ ?_
  · intro q; have w := w.1 q
    exact z_wk (r_isEdge_46_ok hm w) ⟨rfl, trivial⟩
  · intro q; have w := w.2 q
    refine z_ldk (ok := q_isA) (n := 0) (ck_at dt_isEdge 17 rfl) rfl rfl (fun _ => rfl) rfl rfl ?_
    refine z_ldk (ok := q_isI) (n := 1) (ck_at dt_isEdge 18 rfl) rfl rfl (fun _ => rfl) rfl rfl ?_
    refine z_virt (k' := k_byteAt) (n := 0) (as := [iv x1]) (r := []) (ck_at dt_isEdge 19 rfl) own_isEdge (mm_at 43 rfl) vk_byteAt rfl nl_byteAt rfl rfl rfl rfl ?_
    exact w.mono (Nat.le_refl _) (fun o B' ⟨v, ho, w⟩ => ⟨some (iv v), ho, z_wk (r_isEdge_36_ok hm w) ⟨rfl, trivial⟩⟩)
def r_isEdge_21 (m : Nat) (h0 : qH) (d : Nat) (x1 : Int) (B : qB) (Q : qO → qB → Prop) : Prop := r_isEdge_22 m h0 d x1 0 B Q
theorem r_isEdge_21_ok {m : Nat} {h0 : qH} {d : Nat} {x1 : Int} {B : qB} {Q : qO → qB → Prop} (hm : m + 100 < 1000000000) (w : r_isEdge_21 m h0 d x1 B Q) : qZ m h0 (d + 1) k_isEdge 21 [some (.ref m), some (iv x1), none, none] [] B Q := by
  unfold r_isEdge_21 at w
  refine z_op (ck_at dt_isEdge 11 rfl) rfl (o_const _) ?_
  exact z_wk (r_isEdge_22_ok hm w) ⟨rfl, ⟨rfl, trivial⟩⟩
def r_isEdge_14 (m : Nat) (h0 : qH) (d : Nat) (x1 s0 : Int) (B : qB) (Q : qO → qB → Prop) : Prop := R32 s0 ∧ (s0 = 0 → r_isEdge_21 m h0 d x1 B Q) ∧ (¬ s0 = 0 → r_isEdge_22 m h0 d x1 1 B Q)
theorem r_isEdge_14_ok {m : Nat} {h0 : qH} {d : Nat} {x1 s0 : Int} {B : qB} {Q : qO → qB → Prop} (hm : m + 100 < 1000000000) (w : r_isEdge_14 m h0 d x1 s0 B Q) : qZ m h0 (d + 1) k_isEdge 14 [some (.ref m), some (iv x1), none, none] [iv s0] B Q := by
  unfold r_isEdge_14 at w
  obtain ⟨p1, w⟩ := w
  refine z_ifz (t := 21) (ck_at dt_isEdge 8 rfl) rfl p1 ?_ ?_
  · intro q; have w := w.1 q
    exact z_wk (r_isEdge_21_ok hm w) ⟨rfl, ⟨rfl, trivial⟩⟩
  · intro q; have w := w.2 q
    refine z_op (ck_at dt_isEdge 9 rfl) rfl (o_const _) ?_
    refine z_goto (t := 22) (ck_at dt_isEdge 10 rfl) rfl ?_
    exact z_wk (r_isEdge_22_ok hm w) ⟨rfl, ⟨rfl, trivial⟩⟩
def r_isEdge_11 (m : Nat) (h0 : qH) (d : Nat) (x1 s0 : Int) (B : qB) (Q : qO → qB → Prop) : Prop := qZ m h0 d k_isWord 0 [some (iv s0)] [] B (fun o B' => ∃ v : Int, o = .inl (some (iv v)) ∧ r_isEdge_14 m h0 d x1 v B' Q)
theorem r_isEdge_11_ok {m : Nat} {h0 : qH} {d : Nat} {x1 s0 : Int} {B : qB} {Q : qO → qB → Prop} (hm : m + 100 < 1000000000) (w : r_isEdge_11 m h0 d x1 s0 B Q) : qZ m h0 (d + 1) k_isEdge 11 [some (.ref m), some (iv x1), none, none] [iv s0] B Q := by
  unfold r_isEdge_11 at w
  refine z_stat (k' := k_isWord) (n := 0) (as := [iv s0]) (r := []) (ck_at dt_isEdge 7 rfl) own_isEdge (mm_at 24 rfl) (ms_at 3 rfl) vk_isWord rfl nl_isWord rfl rfl rfl rfl ?_
  exact w.mono (Nat.le_refl _) (fun o B' ⟨v, ho, w⟩ => ⟨some (iv v), ho, z_wk (r_isEdge_14_ok hm w) ⟨rfl, ⟨rfl, trivial⟩⟩⟩)
def r_isEdge_0 (m : Nat) (h0 : qH) (d : Nat) (x1 : Int) (B : qB) (Q : qO → qB → Prop) : Prop := R32 x1 ∧ (x1 ≤ 0 → r_isEdge_21 m h0 d x1 B Q) ∧ (x1 > 0 → qZ m h0 d k_byteAt 0 [some (.ref m), some (iv (x1 - 1))] [] B (fun o B' => ∃ v : Int, o = .inl (some (iv v)) ∧ r_isEdge_11 m h0 d x1 v B' Q))
theorem r_isEdge_0_ok {m : Nat} {h0 : qH} {d : Nat} {x1 : Int} {B : qB} {Q : qO → qB → Prop} (hm : m + 100 < 1000000000) (w : r_isEdge_0 m h0 d x1 B Q) : qZ m h0 (d + 1) k_isEdge 0 [some (.ref m), some (iv x1), none, none] [] B Q := by
  unfold r_isEdge_0 at w
  obtain ⟨p1, w⟩ := w
  refine z_ldk (ok := q_isI) (n := 1) (ck_at dt_isEdge 0 rfl) rfl rfl (fun _ => rfl) rfl rfl ?_
  refine z_ifz (t := 21) (ck_at dt_isEdge 1 rfl) rfl p1 ?_ ?_
  · intro q; have w := w.1 q
    exact z_wk (r_isEdge_21_ok hm w) ⟨rfl, ⟨rfl, trivial⟩⟩
  · intro q; have w := w.2 q
    refine z_ldk (ok := q_isA) (n := 0) (ck_at dt_isEdge 2 rfl) rfl rfl (fun _ => rfl) rfl rfl ?_
    refine z_ldk (ok := q_isI) (n := 1) (ck_at dt_isEdge 3 rfl) rfl rfl (fun _ => rfl) rfl rfl ?_
    refine z_op (ck_at dt_isEdge 4 rfl) rfl (o_const _) ?_
    refine z_op (ck_at dt_isEdge 5 rfl) rfl o_isub ?_
    refine z_virt (k' := k_byteAt) (n := 0) (as := [iv (x1 - 1)]) (r := []) (ck_at dt_isEdge 6 rfl) own_isEdge (mm_at 43 rfl) vk_byteAt rfl nl_byteAt rfl rfl rfl rfl ?_
    exact w.mono (Nat.le_refl _) (fun o B' ⟨v, ho, w⟩ => ⟨some (iv v), ho, z_wk (r_isEdge_11_ok hm w) ⟨rfl, ⟨rfl, trivial⟩⟩⟩)
/-! wasHere(II)Z -/
def t_wasHere : List (Nat × Instr × Nat) := [(0, .aload_n 0, 1), (1, .getfield 109, 3), (4, .iload_n 1, 1), (5, .iaload, 1), (6, .istore_n 3, 1), (7, .aload_n 0, 1), (8, .getfield 127, 3), (11, .iload_n 3, 1), (12, .iaload, 1), (13, .istore 4, 2), (15, .aload_n 0, 1), (16, .getfield 121, 3), (19, .iload_n 3, 1), (20, .iaload, 1), (21, .istore 5, 2), (23, .iload 5, 2), (25, .ifCond .lt 29, 3), (28, .aload_n 0, 1), (29, .getfield 118, 3), (32, .iload 5, 2), (34, .iaload, 1), (35, .iload_n 2, 1), (36, .if_icmp .ne 18, 3), (39, .iinc 4 1, 3), (42, .aload_n 0, 1), (43, .getfield 124, 3), (46, .iload 5, 2), (48, .iaload, 1), (49, .istore 5, 2), (51, .goto (-28), 3), (54, .iload 4, 2), (56, .aload_n 0, 1), (57, .getfield 324, 3), (60, .iconst 1, 1), (61, .iadd, 1), (62, .imul, 1), (63, .iload_n 2, 1), (64, .iadd, 1), (65, .istore 5, 2), (67, .aload_n 0, 1), (68, .getfield 147, 3), (71, .iload 5, 2), (73, .bipush 6, 2), (75, .ishr, 1), (76, .laload, 1), (77, .iload 5, 2), (79, .bipush 63, 2), (81, .iand, 1), (82, .lshr, 1), (83, .lconst 1, 1), (84, .land, 1), (85, .lconst 1, 1), (86, .lcmp, 1), (87, .ifCond .ne 5, 3), (90, .iconst 1, 1), (91, .ireturn, 1), (92, .aload_n 0, 1), (93, .getfield 147, 3), (96, .iload 5, 2), (98, .bipush 6, 2), (100, .ishr, 1), (101, .dup2, 1), (102, .laload, 1), (103, .lconst 1, 1), (104, .iload 5, 2), (106, .bipush 63, 2), (108, .iand, 1), (109, .lshl, 1), (110, .lor, 1), (111, .lastore, 1), (112, .iconst 0, 1), (113, .ireturn, 1)]
set_option maxRecDepth 100000 in
theorem dt_wasHere : q_ck k_wasHere t_wasHere = true := by decide +kernel
def r_wasHere_54 (m : Nat) (h0 : qH) (d : Nat) (x2 x4 : Int) (B : qB) (Q : qO → qB → Prop) : Prop := 0 ≤ iShr ((x4 * ((B 57 0) + 1)) + x2) 6 ∧ iShr ((x4 * ((B 57 0) + 1)) + x2) 6 < 80000 ∧ (¬ lCmp (lAnd (lShr (B 67 (iShr ((x4 * ((B 57 0) + 1)) + x2) 6)) (iAnd ((x4 * ((B 57 0) + 1)) + x2) 63)) 1) 1 = 0 → Q (.inl (some (iv 0))) (u2 B 67 (iShr ((x4 * ((B 57 0) + 1)) + x2) 6) (lOr (B 67 (iShr ((x4 * ((B 57 0) + 1)) + x2) 6)) (lShl 1 (iAnd ((x4 * ((B 57 0) + 1)) + x2) 63))))) ∧ (lCmp (lAnd (lShr (B 67 (iShr ((x4 * ((B 57 0) + 1)) + x2) 6)) (iAnd ((x4 * ((B 57 0) + 1)) + x2) 63)) 1) 1 = 0 → Q (.inl (some (iv 1))) B)
theorem r_wasHere_54_ok {m : Nat} {h0 : qH} {d : Nat} {x2 x4 : Int} {B : qB} {Q : qO → qB → Prop} (hm : m + 100 < 1000000000) (w : r_wasHere_54 m h0 d x2 x4 B Q) : qZ m h0 (d + 1) k_wasHere 54 [some (.ref m), none, some (iv x2), none, some (iv x4), none] [] B Q := by
  unfold r_wasHere_54 at w
  obtain ⟨p1, p2, w⟩ := w
  refine z_ldk (ok := q_isI) (n := 4) (ck_at dt_wasHere 30 rfl) rfl rfl (fun _ => rfl) rfl rfl ?_
  refine z_ldk (ok := q_isA) (n := 0) (ck_at dt_wasHere 31 rfl) rfl rfl (fun _ => rfl) rfl rfl ?_
  refine z_getI (j := 57) (ck_at dt_wasHere 32 rfl) own_wasHere (mf_at 66 rfl) (by decide) rfl ?_
  refine z_op (ck_at dt_wasHere 33 rfl) rfl (o_const _) ?_
  refine z_op (ck_at dt_wasHere 34 rfl) rfl o_iadd ?_
  refine z_op (ck_at dt_wasHere 35 rfl) rfl o_imul ?_
  refine z_ldk (ok := q_isI) (n := 2) (ck_at dt_wasHere 36 rfl) rfl rfl (fun _ => rfl) rfl rfl ?_
  refine z_op (ck_at dt_wasHere 37 rfl) rfl o_iadd ?_
  refine z_st1 (ok := q_isI) (n := 5) (L' := [some (.ref m), none, some (iv x2), none, some (iv x4), some (iv ((x4 * ((B 57 0) + 1)) + x2))]) (ck_at dt_wasHere 38 rfl) rfl (fun _ => rfl) (fun _ _ => rfl) rfl nl_wasHere (by decide) rfl rfl ?_
  refine z_ldk (ok := q_isA) (n := 0) (ck_at dt_wasHere 39 rfl) rfl rfl (fun _ => rfl) rfl rfl ?_
  refine z_getR (j := 67) (a := 43) (ck_at dt_wasHere 40 rfl) own_wasHere (mf_at 44 rfl) (by decide) rfl rfl ?_
  refine z_ldk (ok := q_isI) (n := 5) (ck_at dt_wasHere 41 rfl) rfl rfl (fun _ => rfl) rfl rfl ?_
  refine z_op (ck_at dt_wasHere 42 rfl) rfl (o_bipush _ (by decide)) ?_
  refine z_op (ck_at dt_wasHere 43 rfl) rfl o_ishr ?_
  refine z_lald (j := 67) (n := 80000) (ck_at dt_wasHere 44 rfl) rfl rfl rfl p1 p2 ?_
  refine z_ldk (ok := q_isI) (n := 5) (ck_at dt_wasHere 45 rfl) rfl rfl (fun _ => rfl) rfl rfl ?_
  refine z_op (ck_at dt_wasHere 46 rfl) rfl (o_bipush _ (by decide)) ?_
  refine z_op (ck_at dt_wasHere 47 rfl) rfl o_iand ?_
  refine z_op (ck_at dt_wasHere 48 rfl) rfl o_lshr ?_
  refine z_op (ck_at dt_wasHere 49 rfl) rfl o_lconst1 ?_
  refine z_op (ck_at dt_wasHere 50 rfl) rfl o_land ?_
  refine z_op (ck_at dt_wasHere 51 rfl) rfl o_lconst1 ?_
  refine z_op (ck_at dt_wasHere 52 rfl) rfl o_lcmp ?_
  refine z_ifz (t := 92) (ck_at dt_wasHere 53 rfl) rfl (R32_i _) ?_ ?_
  · intro q; have w := w.1 q
    refine z_ldk (ok := q_isA) (n := 0) (ck_at dt_wasHere 56 rfl) rfl rfl (fun _ => rfl) rfl rfl ?_
    refine z_getR (j := 67) (a := 43) (ck_at dt_wasHere 57 rfl) own_wasHere (mf_at 44 rfl) (by decide) rfl rfl ?_
    refine z_ldk (ok := q_isI) (n := 5) (ck_at dt_wasHere 58 rfl) rfl rfl (fun _ => rfl) rfl rfl ?_
    refine z_op (ck_at dt_wasHere 59 rfl) rfl (o_bipush _ (by decide)) ?_
    refine z_op (ck_at dt_wasHere 60 rfl) rfl o_ishr ?_
    refine z_op (ck_at dt_wasHere 61 rfl) rfl rfl ?_
    refine z_lald (j := 67) (n := 80000) (ck_at dt_wasHere 62 rfl) rfl rfl rfl p1 p2 ?_
    refine z_op (ck_at dt_wasHere 63 rfl) rfl o_lconst1 ?_
    refine z_ldk (ok := q_isI) (n := 5) (ck_at dt_wasHere 64 rfl) rfl rfl (fun _ => rfl) rfl rfl ?_
    refine z_op (ck_at dt_wasHere 65 rfl) rfl (o_bipush _ (by decide)) ?_
    refine z_op (ck_at dt_wasHere 66 rfl) rfl o_iand ?_
    refine z_op (ck_at dt_wasHere 67 rfl) rfl o_lshl ?_
    refine z_op (ck_at dt_wasHere 68 rfl) rfl o_lor ?_
    refine z_last (j := 67) (n := 80000) hm (ck_at dt_wasHere 69 rfl) rfl rfl rfl p1 p2 ?_
    refine z_op (ck_at dt_wasHere 70 rfl) rfl (o_const _) ?_
    exact z_retZ (ck_at dt_wasHere 71 rfl) rt_wasHere (by decide) w
  · intro q; have w := w.2 q
    refine z_op (ck_at dt_wasHere 54 rfl) rfl (o_const _) ?_
    exact z_retZ (ck_at dt_wasHere 55 rfl) rt_wasHere (by decide) w
def r_wasHere_23 (m : Nat) (h0 : qH) (d : Nat) (x2 x4 x5 : Int) (B : qB) (Q : qO → qB → Prop) : Prop := R32 x5 ∧ (x5 < 0 → r_wasHere_54 m h0 d x2 x4 B Q) ∧ (x5 ≥ 0 → 0 ≤ x5 ∧ x5 < 800 ∧ R32 (B 51 x5) ∧ R32 x2 ∧ (¬ B 51 x5 = x2 → r_wasHere_54 m h0 d x2 x4 B Q) ∧ (B 51 x5 = x2 → qZ m h0 (d + 1) k_wasHere 23 [some (.ref m), none, some (iv x2), none, some (iv (x4 + 1)), some (iv (B 53 x5))] [] B Q))
theorem r_wasHere_23_ok {m : Nat} {h0 : qH} {d : Nat} {x2 x4 x5 : Int} {B : qB} {Q : qO → qB → Prop} (hm : m + 100 < 1000000000) (w : r_wasHere_23 m h0 d x2 x4 x5 B Q) : qZ m h0 (d + 1) k_wasHere 23 [some (.ref m), none, some (iv x2), none, some (iv x4), some (iv x5)] [] B Q := by
  unfold r_wasHere_23 at w
  obtain ⟨p1, w⟩ := w
  refine z_ldk (ok := q_isI) (n := 5) (ck_at dt_wasHere 15 rfl) rfl rfl (fun _ => rfl) rfl rfl ?_
  refine z_ifz (t := 54) (ck_at dt_wasHere 16 rfl) rfl p1 ?_ ?_
  · intro q; have w := w.1 q
    exact z_wk (r_wasHere_54_ok hm w) ⟨rfl, ⟨rfl, ⟨rfl, trivial⟩⟩⟩
  · intro q; have w := w.2 q
    obtain ⟨p2, p3, p4, p5, w⟩ := w
    refine z_ldk (ok := q_isA) (n := 0) (ck_at dt_wasHere 17 rfl) rfl rfl (fun _ => rfl) rfl rfl ?_
    refine z_getR (j := 51) (a := 34) (ck_at dt_wasHere 18 rfl) own_wasHere (mf_at 35 rfl) (by decide) rfl rfl ?_
    refine z_ldk (ok := q_isI) (n := 5) (ck_at dt_wasHere 19 rfl) rfl rfl (fun _ => rfl) rfl rfl ?_
    refine z_iald (j := 51) (n := 800) (ck_at dt_wasHere 20 rfl) rfl rfl rfl p2 p3 ?_
    refine z_ldk (ok := q_isI) (n := 2) (ck_at dt_wasHere 21 rfl) rfl rfl (fun _ => rfl) rfl rfl ?_
    refine z_icmp (t := 54) (ck_at dt_wasHere 22 rfl) rfl p4 p5 ?_ ?_
    · intro q; have w := w.1 q
      exact z_wk (r_wasHere_54_ok hm w) ⟨rfl, ⟨rfl, ⟨rfl, trivial⟩⟩⟩
    · intro q; have w := w.2 q
      refine z_iinc (n := 4) (L' := [some (.ref m), none, some (iv x2), none, some (iv (x4 + 1)), some (iv x5)]) (ck_at dt_wasHere 23 rfl) rfl nl_wasHere (by decide) trivial rfl ?_
      refine z_ldk (ok := q_isA) (n := 0) (ck_at dt_wasHere 24 rfl) rfl rfl (fun _ => rfl) rfl rfl ?_
      refine z_getR (j := 53) (a := 36) (ck_at dt_wasHere 25 rfl) own_wasHere (mf_at 37 rfl) (by decide) rfl rfl ?_
      refine z_ldk (ok := q_isI) (n := 5) (ck_at dt_wasHere 26 rfl) rfl rfl (fun _ => rfl) rfl rfl ?_
      refine z_iald (j := 53) (n := 800) (ck_at dt_wasHere 27 rfl) rfl rfl rfl p2 p3 ?_
      refine z_st1 (ok := q_isI) (n := 5) (L' := [some (.ref m), none, some (iv x2), none, some (iv (x4 + 1)), some (iv (B 53 x5))]) (ck_at dt_wasHere 28 rfl) rfl (fun _ => rfl) (fun _ _ => rfl) rfl nl_wasHere (by decide) rfl rfl ?_
      refine z_goto (t := 23) (ck_at dt_wasHere 29 rfl) rfl ?_
      exact z_wk w ⟨rfl, ⟨rfl, ⟨rfl, ⟨rfl, trivial⟩⟩⟩⟩
def r_wasHere_0 (m : Nat) (h0 : qH) (d : Nat) (x1 x2 : Int) (B : qB) (Q : qO → qB → Prop) : Prop := 0 ≤ x1 ∧ x1 < 6000 ∧ 0 ≤ B 45 x1 ∧ B 45 x1 < 2001 ∧ B 45 x1 < 2000 ∧ qZ m h0 (d + 1) k_wasHere 23 [some (.ref m), none, some (iv x2), none, some (iv (B 54 (B 45 x1))), some (iv (B 52 (B 45 x1)))] [] B Q
theorem r_wasHere_0_ok {m : Nat} {h0 : qH} {d : Nat} {x1 x2 : Int} {B : qB} {Q : qO → qB → Prop} (hm : m + 100 < 1000000000) (w : r_wasHere_0 m h0 d x1 x2 B Q) : qZ m h0 (d + 1) k_wasHere 0 [some (.ref m), some (iv x1), some (iv x2), none, none, none] [] B Q := by
  unfold r_wasHere_0 at w
  obtain ⟨p1, p2, p3, p4, p5, w⟩ := w
  refine z_ldk (ok := q_isA) (n := 0) (ck_at dt_wasHere 0 rfl) rfl rfl (fun _ => rfl) rfl rfl ?_
  refine z_getR (j := 45) (a := 31) (ck_at dt_wasHere 1 rfl) own_wasHere (mf_at 32 rfl) (by decide) rfl rfl ?_
  refine z_ldk (ok := q_isI) (n := 1) (ck_at dt_wasHere 2 rfl) rfl rfl (fun _ => rfl) rfl rfl ?_
  refine z_iald (j := 45) (n := 6000) (ck_at dt_wasHere 3 rfl) rfl rfl rfl p1 p2 ?_
  refine z_st1 (ok := q_isI) (n := 3) (L' := [some (.ref m), some (iv x1), some (iv x2), some (iv (B 45 x1)), none, none]) (ck_at dt_wasHere 4 rfl) rfl (fun _ => rfl) (fun _ _ => rfl) rfl nl_wasHere (by decide) rfl rfl ?_
  refine z_ldk (ok := q_isA) (n := 0) (ck_at dt_wasHere 5 rfl) rfl rfl (fun _ => rfl) rfl rfl ?_
  refine z_getR (j := 54) (a := 37) (ck_at dt_wasHere 6 rfl) own_wasHere (mf_at 38 rfl) (by decide) rfl rfl ?_
  refine z_ldk (ok := q_isI) (n := 3) (ck_at dt_wasHere 7 rfl) rfl rfl (fun _ => rfl) rfl rfl ?_
  refine z_iald (j := 54) (n := 2001) (ck_at dt_wasHere 8 rfl) rfl rfl rfl p3 p4 ?_
  refine z_st1 (ok := q_isI) (n := 4) (L' := [some (.ref m), some (iv x1), some (iv x2), some (iv (B 45 x1)), some (iv (B 54 (B 45 x1))), none]) (ck_at dt_wasHere 9 rfl) rfl (fun _ => rfl) (fun _ _ => rfl) rfl nl_wasHere (by decide) rfl rfl ?_
  refine z_ldk (ok := q_isA) (n := 0) (ck_at dt_wasHere 10 rfl) rfl rfl (fun _ => rfl) rfl rfl ?_
  refine z_getR (j := 52) (a := 35) (ck_at dt_wasHere 11 rfl) own_wasHere (mf_at 36 rfl) (by decide) rfl rfl ?_
  refine z_ldk (ok := q_isI) (n := 3) (ck_at dt_wasHere 12 rfl) rfl rfl (fun _ => rfl) rfl rfl ?_
  refine z_iald (j := 52) (n := 2000) (ck_at dt_wasHere 13 rfl) rfl rfl rfl p3 p5 ?_
  refine z_st1 (ok := q_isI) (n := 5) (L' := [some (.ref m), some (iv x1), some (iv x2), some (iv (B 45 x1)), some (iv (B 54 (B 45 x1))), some (iv (B 52 (B 45 x1)))]) (ck_at dt_wasHere 14 rfl) rfl (fun _ => rfl) (fun _ _ => rfl) rfl nl_wasHere (by decide) rfl rfl ?_
  exact z_wk w ⟨rfl, ⟨rfl, ⟨rfl, ⟨rfl, trivial⟩⟩⟩⟩
/-! one()I -/
def t_one : List (Nat × Instr × Nat) := [(0, .aload_n 0, 1), (1, .getfield 100, 3), (4, .aload_n 0, 1), (5, .getfield 333, 3), (8, .iaload, 1), (9, .istore_n 1, 1), (10, .iload_n 1, 1), (11, .iconst 1, 1), (12, .if_icmp .eq 9, 3), (15, .iload_n 1, 1), (16, .bipush 6, 2), (18, .if_icmp .ne 20, 3), (21, .aload_n 0, 1), (22, .aload_n 0, 1), (23, .getfield 333, 3), (26, .aload_n 0, 1), (27, .getfield 336, 3), (30, .invokevirtual 339, 3), (33, .ifCond .eq 5, 3), (36, .iconst 1, 1), (37, .ireturn, 1), (38, .iload_n 1, 1), (39, .ifCond .ne 63, 3), (42, .aload_n 0, 1), (43, .getfield 336, 3), (46, .aload_n 0, 1), (47, .getfield 324, 3), (50, .if_icmp .eq 27, 3), (53, .aload_n 0, 1), (54, .aload_n 0, 1), (55, .getfield 103, 3), (58, .aload_n 0, 1), (59, .getfield 333, 3), (62, .iaload, 1), (63, .aload_n 0, 1), (64, .aload_n 0, 1), (65, .getfield 336, 3), (68, .invokevirtual 330, 3), (71, .invokevirtual 342, 3), (74, .ifCond .ne 5, 3), (77, .iconst 1, 1), (78, .ireturn, 1), (79, .aload_n 0, 1), (80, .dup, 1), (81, .getfield 336, 3), (84, .iconst 1, 1), (85, .iadd, 1), (86, .putfield 336, 3), (89, .aload_n 0, 1), (90, .dup, 1), (91, .getfield 333, 3), (94, .iconst 1, 1), (95, .iadd, 1), (96, .putfield 333, 3), (99, .goto 388, 3), (102, .iload_n 1, 1), (103, .iconst 1, 1), (104, .if_icmp .ne 41, 3), (107, .aload_n 0, 1), (108, .sipush 8192, 3), (111, .aload_n 0, 1), (112, .getfield 336, 3), (115, .imul, 1), (116, .aload_n 0, 1), (117, .getfield 106, 3), (120, .aload_n 0, 1), (121, .getfield 333, 3), (124, .iaload, 1), (125, .iadd, 1), (126, .invokevirtual 321, 3), (129, .aload_n 0, 1), (130, .aload_n 0, 1), (131, .getfield 103, 3), (134, .aload_n 0, 1), (135, .getfield 333, 3), (138, .iaload, 1), (139, .putfield 333, 3), (142, .goto 345, 3), (145, .iload_n 1, 1), (146, .iconst 2, 1), (147, .if_icmp .ne 19, 3), (150, .aload_n 0, 1), (151, .aload_n 0, 1), (152, .getfield 103, 3), (155, .aload_n 0, 1), (156, .getfield 333, 3), (159, .iaload, 1), (160, .putfield 333, 3), (163, .goto 324, 3), (166, .iload_n 1, 1), (167, .iconst 3, 1), (168, .if_icmp .ne 61, 3), (171, .aload_n 0, 1), (172, .aload_n 0, 1), (173, .getfield 103, 3), (176, .aload_n 0, 1), (177, .getfield 333, 3), (180, .iaload, 1), (181, .aload_n 0, 1), (182, .getfield 112, 3), (185, .aload_n 0, 1), (186, .getfield 103, 3), (189, .aload_n 0, 1), (190, .getfield 333, 3), (193, .iaload, 1), (194, .iaload, 1), (195, .invokevirtual 345, 3), (198, .aload_n 0, 1), (199, .getfield 112, 3), (202, .aload_n 0, 1), (203, .getfield 103, 3), (206, .aload_n 0, 1), (207, .getfield 333, 3), (210, .iaload, 1), (211, .aload_n 0, 1), (212, .getfield 336, 3), (215, .iastore, 1), (216, .aload_n 0, 1), (217, .dup, 1), (218, .getfield 333, 3), (221, .iconst 1, 1), (222, .iadd, 1), (223, .putfield 333, 3), (226, .goto 261, 3), (229, .iload_n 1, 1), (230, .iconst 4, 1), (231, .if_icmp .ne 64, 3), (234, .aload_n 0, 1), (235, .bipush 32, 2), (237, .aload_n 0, 1), (238, .getfield 103, 3), (241, .aload_n 0, 1), (242, .getfield 333, 3), (245, .iaload, 1), (246, .iadd, 1), (247, .aload_n 0, 1), (248, .getfield 118, 3), (251, .aload_n 0, 1), (252, .getfield 103, 3), (255, .aload_n 0, 1), (256, .getfield 333, 3), (259, .iaload, 1), (260, .iaload, 1), (261, .invokevirtual 345, 3), (264, .aload_n 0, 1), (265, .getfield 118, 3), (268, .aload_n 0, 1), (269, .getfield 103, 3), (272, .aload_n 0, 1), (273, .getfield 333, 3), (276, .iaload, 1), (277, .aload_n 0, 1), (278, .getfield 336, 3), (281, .iastore, 1), (282, .aload_n 0, 1), (283, .dup, 1), (284, .getfield 333, 3), (287, .iconst 1, 1), (288, .iadd, 1), (289, .putfield 333, 3), (292, .goto 195, 3), (295, .iload_n 1, 1), (296, .iconst 5, 1), (297, .if_icmp .ne 84, 3), (300, .aload_n 0, 1), (301, .getfield 118, 3), (304, .aload_n 0, 1), (305, .getfield 103, 3), (308, .aload_n 0, 1), (309, .getfield 333, 3), (312, .iaload, 1), (313, .iaload, 1), (314, .aload_n 0, 1), (315, .getfield 336, 3), (318, .if_icmp .ne 5, 3), (321, .iconst 1, 1), (322, .ireturn, 1), (323, .aload_n 0, 1), (324, .bipush 32, 2), (326, .aload_n 0, 1), (327, .getfield 103, 3), (330, .aload_n 0, 1), (331, .getfield 333, 3), (334, .iaload, 1), (335, .iadd, 1), (336, .aload_n 0, 1), (337, .getfield 118, 3), (340, .aload_n 0, 1), (341, .getfield 103, 3), (344, .aload_n 0, 1), (345, .getfield 333, 3), (348, .iaload, 1), (349, .iaload, 1), (350, .invokevirtual 345, 3), (353, .aload_n 0, 1), (354, .getfield 118, 3), (357, .aload_n 0, 1), (358, .getfield 103, 3), (361, .aload_n 0, 1), (362, .getfield 333, 3), (365, .iaload, 1), (366, .iconst (-1), 1), (367, .iastore, 1), (368, .aload_n 0, 1), (369, .dup, 1), (370, .getfield 333, 3), (373, .iconst 1, 1), (374, .iadd, 1), (375, .putfield 333, 3), (378, .goto 109, 3), (381, .iload_n 1, 1), (382, .bipush 6, 2), (384, .if_icmp .ne 5, 3), (387, .iconst 3, 1), (388, .ireturn, 1), (389, .iload_n 1, 1), (390, .bipush 11, 2), (392, .if_icmp .ne 5, 3), (395, .iconst 2, 1), (396, .ireturn, 1), (397, .iload_n 1, 1), (398, .bipush 7, 2), (400, .if_icmp .ne 18, 3), (403, .aload_n 0, 1), (404, .getfield 336, 3), (407, .ifCond .ne 7, 3), (410, .iconst 1, 1), (411, .goto 59, 3), (414, .iconst 0, 1), (415, .goto 55, 3), (418, .iload_n 1, 1), (419, .bipush 8, 2), (421, .if_icmp .ne 22, 3), (424, .aload_n 0, 1), (425, .getfield 336, 3), (428, .aload_n 0, 1), (429, .getfield 324, 3), (432, .if_icmp .ne 7, 3), (435, .iconst 1, 1), (436, .goto 34, 3), (439, .iconst 0, 1), (440, .goto 30, 3), (443, .aload_n 0, 1), (444, .aload_n 0, 1), (445, .getfield 336, 3), (448, .invokevirtual 348, 3), (451, .iload_n 1, 1), (452, .bipush 9, 2), (454, .if_icmp .ne 7, 3), (457, .iconst 1, 1), (458, .goto 4, 3), (461, .iconst 0, 1), (462, .if_icmp .ne 7, 3), (465, .iconst 1, 1), (466, .goto 4, 3), (469, .iconst 0, 1), (470, .istore_n 2, 1), (471, .iload_n 2, 1), (472, .ifCond .ne 5, 3), (475, .iconst 1, 1), (476, .ireturn, 1), (477, .aload_n 0, 1), (478, .dup, 1), (479, .getfield 333, 3), (482, .iconst 1, 1), (483, .iadd, 1), (484, .putfield 333, 3), (487, .iconst 0, 1), (488, .ireturn, 1)]
set_option maxRecDepth 100000 in
theorem dt_one : q_ck k_one t_one = true := by decide +kernel
def r_one_470 (m : Nat) (h0 : qH) (d : Nat) (s0 : Int) (B : qB) (Q : qO → qB → Prop) : Prop := R32 s0 ∧ (¬ s0 = 0 → Q (.inl (some (iv 0))) (u2 B 68 0 ((B 68 0) + 1))) ∧ (s0 = 0 → Q (.inl (some (iv 1))) B)
theorem r_one_470_ok {m : Nat} {h0 : qH} {d : Nat} {s0 : Int} {B : qB} {Q : qO → qB → Prop} (hm : m + 100 < 1000000000) (w : r_one_470 m h0 d s0 B Q) : qZ m h0 (d + 1) k_one 470 [some (.ref m), none, none] [iv s0] B Q := by
  unfold r_one_470 at w
  obtain ⟨p1, w⟩ := w
  refine z_st1 (ok := q_isI) (n := 2) (L' := [some (.ref m), none, some (iv s0)]) (ck_at dt_one 256 rfl) rfl (fun _ => rfl) (fun _ _ => rfl) rfl nl_one (by decide) trivial rfl ?_
  refine z_ldk (ok := q_isI) (n := 2) (ck_at dt_one 257 rfl) rfl rfl (fun _ => rfl) rfl rfl ?_
  refine z_ifz (t := 477) (ck_at dt_one 258 rfl) rfl p1 ?_ ?_
  · intro q; have w := w.1 q
    refine z_ldk (ok := q_isA) (n := 0) (ck_at dt_one 261 rfl) rfl rfl (fun _ => rfl) rfl rfl ?_
    refine z_op (ck_at dt_one 262 rfl) rfl rfl ?_
    refine z_getI (j := 68) (ck_at dt_one 263 rfl) own_one (mf_at 70 rfl) (by decide) rfl ?_
    refine z_op (ck_at dt_one 264 rfl) rfl (o_const _) ?_
    refine z_op (ck_at dt_one 265 rfl) rfl o_iadd ?_
    refine z_putI (j := 68) hm (ck_at dt_one 266 rfl) own_one (mf_at 70 rfl) (by decide) rfl rfl rfl ?_
    refine z_op (ck_at dt_one 267 rfl) rfl (o_const _) ?_
    exact z_retI (ck_at dt_one 268 rfl) rt_one w
  · intro q; have w := w.2 q
    refine z_op (ck_at dt_one 259 rfl) rfl (o_const _) ?_
    exact z_retI (ck_at dt_one 260 rfl) rt_one w
def r_one_462 (m : Nat) (h0 : qH) (d : Nat) (s0 s1 : Int) (B : qB) (Q : qO → qB → Prop) : Prop := R32 s0 ∧ R32 s1 ∧ (¬ s0 = s1 → r_one_470 m h0 d 0 B Q) ∧ (s0 = s1 → r_one_470 m h0 d 1 B Q)
theorem r_one_462_ok {m : Nat} {h0 : qH} {d : Nat} {s0 s1 : Int} {B : qB} {Q : qO → qB → Prop} (hm : m + 100 < 1000000000) (w : r_one_462 m h0 d s0 s1 B Q) : qZ m h0 (d + 1) k_one 462 [some (.ref m), none, none] [iv s1, iv s0] B Q := by
  unfold r_one_462 at w
  obtain ⟨p1, p2, w⟩ := w
  refine z_icmp (t := 469) (ck_at dt_one 252 rfl) rfl p1 p2 ?_ ?_
  · intro q; have w := w.1 q
    refine z_op (ck_at dt_one 255 rfl) rfl (o_const _) ?_
    exact z_wk (r_one_470_ok hm w) ⟨rfl, trivial⟩
  · intro q; have w := w.2 q
    refine z_op (ck_at dt_one 253 rfl) rfl (o_const _) ?_
    refine z_goto (t := 470) (ck_at dt_one 254 rfl) rfl ?_
    exact z_wk (r_one_470_ok hm w) ⟨rfl, trivial⟩
def r_one_451 (m : Nat) (h0 : qH) (d : Nat) (x1 s0 : Int) (B : qB) (Q : qO → qB → Prop) : Prop := R32 x1 ∧ (¬ x1 = 9 → r_one_462 m h0 d s0 0 B Q) ∧ (x1 = 9 → r_one_462 m h0 d s0 1 B Q)
theorem r_one_451_ok {m : Nat} {h0 : qH} {d : Nat} {x1 s0 : Int} {B : qB} {Q : qO → qB → Prop} (hm : m + 100 < 1000000000) (w : r_one_451 m h0 d x1 s0 B Q) : qZ m h0 (d + 1) k_one 451 [some (.ref m), some (iv x1), none] [iv s0] B Q := by
  unfold r_one_451 at w
  obtain ⟨p1, w⟩ := w
  refine z_ldk (ok := q_isI) (n := 1) (ck_at dt_one 246 rfl) rfl rfl (fun _ => rfl) rfl rfl ?_
  refine z_op (ck_at dt_one 247 rfl) rfl (o_bipush _ (by decide)) ?_
  refine z_icmp (t := 461) (ck_at dt_one 248 rfl) rfl p1 ⟨by decide, by decide⟩ ?_ ?_
  · intro q; have w := w.1 q
    refine z_op (ck_at dt_one 251 rfl) rfl (o_const _) ?_
    exact z_wk (r_one_462_ok hm w) ⟨rfl, trivial⟩
  · intro q; have w := w.2 q
    refine z_op (ck_at dt_one 249 rfl) rfl (o_const _) ?_
    refine z_goto (t := 462) (ck_at dt_one 250 rfl) rfl ?_
    exact z_wk (r_one_462_ok hm w) ⟨rfl, trivial⟩
def r_one_353 (m : Nat) (h0 : qH) (d : Nat) (B : qB) (Q : qO → qB → Prop) : Prop := 0 ≤ B 68 0 ∧ B 68 0 < 6000 ∧ 0 ≤ B 43 (B 68 0) ∧ B 43 (B 68 0) < 800 ∧ Q (.inl (some (iv 0))) (u2 (u2 B 51 (B 43 (B 68 0)) (-1)) 68 0 ((B 68 0) + 1))
theorem r_one_353_ok {m : Nat} {h0 : qH} {d : Nat} {B : qB} {Q : qO → qB → Prop} (hm : m + 100 < 1000000000) (w : r_one_353 m h0 d B Q) : qZ m h0 (d + 1) k_one 353 [some (.ref m), none, none] [] B Q := by
  unfold r_one_353 at w
  obtain ⟨p1, p2, p3, p4, w⟩ := w
  refine z_ldk (ok := q_isA) (n := 0) (ck_at dt_one 194 rfl) rfl rfl (fun _ => rfl) rfl rfl ?_
  refine z_getR (j := 51) (a := 34) (ck_at dt_one 195 rfl) own_one (mf_at 35 rfl) (by decide) rfl rfl ?_
  refine z_ldk (ok := q_isA) (n := 0) (ck_at dt_one 196 rfl) rfl rfl (fun _ => rfl) rfl rfl ?_
  refine z_getR (j := 43) (a := 29) (ck_at dt_one 197 rfl) own_one (mf_at 30 rfl) (by decide) rfl rfl ?_
  refine z_ldk (ok := q_isA) (n := 0) (ck_at dt_one 198 rfl) rfl rfl (fun _ => rfl) rfl rfl ?_
  refine z_getI (j := 68) (ck_at dt_one 199 rfl) own_one (mf_at 70 rfl) (by decide) rfl ?_
  refine z_iald (j := 43) (n := 6000) (ck_at dt_one 200 rfl) rfl rfl rfl p1 p2 ?_
  refine z_op (ck_at dt_one 201 rfl) rfl (o_const _) ?_
  refine z_iast (j := 51) (n := 800) hm (ck_at dt_one 202 rfl) rfl rfl rfl p3 p4 ?_
  refine z_ldk (ok := q_isA) (n := 0) (ck_at dt_one 203 rfl) rfl rfl (fun _ => rfl) rfl rfl ?_
  refine z_op (ck_at dt_one 204 rfl) rfl rfl ?_
  refine z_getI (j := 68) (ck_at dt_one 205 rfl) own_one (mf_at 70 rfl) (by decide) rfl ?_
  refine z_op (ck_at dt_one 206 rfl) rfl (o_const _) ?_
  refine z_op (ck_at dt_one 207 rfl) rfl o_iadd ?_
  refine z_putI (j := 68) hm (ck_at dt_one 208 rfl) own_one (mf_at 70 rfl) (by decide) rfl rfl rfl ?_
  refine z_goto (t := 487) (ck_at dt_one 209 rfl) rfl ?_
  refine z_op (ck_at dt_one 267 rfl) rfl (o_const _) ?_
  exact z_retI (ck_at dt_one 268 rfl) rt_one w
def r_one_264 (m : Nat) (h0 : qH) (d : Nat) (B : qB) (Q : qO → qB → Prop) : Prop := 0 ≤ B 68 0 ∧ B 68 0 < 6000 ∧ 0 ≤ B 43 (B 68 0) ∧ B 43 (B 68 0) < 800 ∧ Q (.inl (some (iv 0))) (u2 (u2 B 51 (B 43 (B 68 0)) (B 69 0)) 68 0 ((B 68 0) + 1))
theorem r_one_264_ok {m : Nat} {h0 : qH} {d : Nat} {B : qB} {Q : qO → qB → Prop} (hm : m + 100 < 1000000000) (w : r_one_264 m h0 d B Q) : qZ m h0 (d + 1) k_one 264 [some (.ref m), none, none] [] B Q := by
  unfold r_one_264 at w
  obtain ⟨p1, p2, p3, p4, w⟩ := w
  refine z_ldk (ok := q_isA) (n := 0) (ck_at dt_one 144 rfl) rfl rfl (fun _ => rfl) rfl rfl ?_
  refine z_getR (j := 51) (a := 34) (ck_at dt_one 145 rfl) own_one (mf_at 35 rfl) (by decide) rfl rfl ?_
  refine z_ldk (ok := q_isA) (n := 0) (ck_at dt_one 146 rfl) rfl rfl (fun _ => rfl) rfl rfl ?_
  refine z_getR (j := 43) (a := 29) (ck_at dt_one 147 rfl) own_one (mf_at 30 rfl) (by decide) rfl rfl ?_
  refine z_ldk (ok := q_isA) (n := 0) (ck_at dt_one 148 rfl) rfl rfl (fun _ => rfl) rfl rfl ?_
  refine z_getI (j := 68) (ck_at dt_one 149 rfl) own_one (mf_at 70 rfl) (by decide) rfl ?_
  refine z_iald (j := 43) (n := 6000) (ck_at dt_one 150 rfl) rfl rfl rfl p1 p2 ?_
  refine z_ldk (ok := q_isA) (n := 0) (ck_at dt_one 151 rfl) rfl rfl (fun _ => rfl) rfl rfl ?_
  refine z_getI (j := 69) (ck_at dt_one 152 rfl) own_one (mf_at 71 rfl) (by decide) rfl ?_
  refine z_iast (j := 51) (n := 800) hm (ck_at dt_one 153 rfl) rfl rfl rfl p3 p4 ?_
  refine z_ldk (ok := q_isA) (n := 0) (ck_at dt_one 154 rfl) rfl rfl (fun _ => rfl) rfl rfl ?_
  refine z_op (ck_at dt_one 155 rfl) rfl rfl ?_
  refine z_getI (j := 68) (ck_at dt_one 156 rfl) own_one (mf_at 70 rfl) (by decide) rfl ?_
  refine z_op (ck_at dt_one 157 rfl) rfl (o_const _) ?_
  refine z_op (ck_at dt_one 158 rfl) rfl o_iadd ?_
  refine z_putI (j := 68) hm (ck_at dt_one 159 rfl) own_one (mf_at 70 rfl) (by decide) rfl rfl rfl ?_
  refine z_goto (t := 487) (ck_at dt_one 160 rfl) rfl ?_
  refine z_op (ck_at dt_one 267 rfl) rfl (o_const _) ?_
  exact z_retI (ck_at dt_one 268 rfl) rt_one w
def r_one_198 (m : Nat) (h0 : qH) (d : Nat) (B : qB) (Q : qO → qB → Prop) : Prop := 0 ≤ B 68 0 ∧ B 68 0 < 6000 ∧ 0 ≤ B 43 (B 68 0) ∧ B 43 (B 68 0) < 20 ∧ Q (.inl (some (iv 0))) (u2 (u2 B 49 (B 43 (B 68 0)) (B 69 0)) 68 0 ((B 68 0) + 1))
theorem r_one_198_ok {m : Nat} {h0 : qH} {d : Nat} {B : qB} {Q : qO → qB → Prop} (hm : m + 100 < 1000000000) (w : r_one_198 m h0 d B Q) : qZ m h0 (d + 1) k_one 198 [some (.ref m), none, none] [] B Q := by
  unfold r_one_198 at w
  obtain ⟨p1, p2, p3, p4, w⟩ := w
  refine z_ldk (ok := q_isA) (n := 0) (ck_at dt_one 107 rfl) rfl rfl (fun _ => rfl) rfl rfl ?_
  refine z_getR (j := 49) (a := 32) (ck_at dt_one 108 rfl) own_one (mf_at 33 rfl) (by decide) rfl rfl ?_
  refine z_ldk (ok := q_isA) (n := 0) (ck_at dt_one 109 rfl) rfl rfl (fun _ => rfl) rfl rfl ?_
  refine z_getR (j := 43) (a := 29) (ck_at dt_one 110 rfl) own_one (mf_at 30 rfl) (by decide) rfl rfl ?_
  refine z_ldk (ok := q_isA) (n := 0) (ck_at dt_one 111 rfl) rfl rfl (fun _ => rfl) rfl rfl ?_
  refine z_getI (j := 68) (ck_at dt_one 112 rfl) own_one (mf_at 70 rfl) (by decide) rfl ?_
  refine z_iald (j := 43) (n := 6000) (ck_at dt_one 113 rfl) rfl rfl rfl p1 p2 ?_
  refine z_ldk (ok := q_isA) (n := 0) (ck_at dt_one 114 rfl) rfl rfl (fun _ => rfl) rfl rfl ?_
  refine z_getI (j := 69) (ck_at dt_one 115 rfl) own_one (mf_at 71 rfl) (by decide) rfl ?_
  refine z_iast (j := 49) (n := 20) hm (ck_at dt_one 116 rfl) rfl rfl rfl p3 p4 ?_
  refine z_ldk (ok := q_isA) (n := 0) (ck_at dt_one 117 rfl) rfl rfl (fun _ => rfl) rfl rfl ?_
  refine z_op (ck_at dt_one 118 rfl) rfl rfl ?_
  refine z_getI (j := 68) (ck_at dt_one 119 rfl) own_one (mf_at 70 rfl) (by decide) rfl ?_
  refine z_op (ck_at dt_one 120 rfl) rfl (o_const _) ?_
  refine z_op (ck_at dt_one 121 rfl) rfl o_iadd ?_
  refine z_putI (j := 68) hm (ck_at dt_one 122 rfl) own_one (mf_at 70 rfl) (by decide) rfl rfl rfl ?_
  refine z_goto (t := 487) (ck_at dt_one 123 rfl) rfl ?_
  refine z_op (ck_at dt_one 267 rfl) rfl (o_const _) ?_
  exact z_retI (ck_at dt_one 268 rfl) rt_one w
def r_one_129 (m : Nat) (h0 : qH) (d : Nat) (B : qB) (Q : qO → qB → Prop) : Prop := 0 ≤ B 68 0 ∧ B 68 0 < 6000 ∧ Q (.inl (some (iv 0))) (u2 B 68 0 (B 43 (B 68 0)))
theorem r_one_129_ok {m : Nat} {h0 : qH} {d : Nat} {B : qB} {Q : qO → qB → Prop} (hm : m + 100 < 1000000000) (w : r_one_129 m h0 d B Q) : qZ m h0 (d + 1) k_one 129 [some (.ref m), none, none] [] B Q := by
  unfold r_one_129 at w
  obtain ⟨p1, p2, w⟩ := w
  refine z_ldk (ok := q_isA) (n := 0) (ck_at dt_one 70 rfl) rfl rfl (fun _ => rfl) rfl rfl ?_
  refine z_ldk (ok := q_isA) (n := 0) (ck_at dt_one 71 rfl) rfl rfl (fun _ => rfl) rfl rfl ?_
  refine z_getR (j := 43) (a := 29) (ck_at dt_one 72 rfl) own_one (mf_at 30 rfl) (by decide) rfl rfl ?_
  refine z_ldk (ok := q_isA) (n := 0) (ck_at dt_one 73 rfl) rfl rfl (fun _ => rfl) rfl rfl ?_
  refine z_getI (j := 68) (ck_at dt_one 74 rfl) own_one (mf_at 70 rfl) (by decide) rfl ?_
  refine z_iald (j := 43) (n := 6000) (ck_at dt_one 75 rfl) rfl rfl rfl p1 p2 ?_
  refine z_putI (j := 68) hm (ck_at dt_one 76 rfl) own_one (mf_at 70 rfl) (by decide) rfl rfl rfl ?_
  refine z_goto (t := 487) (ck_at dt_one 77 rfl) rfl ?_
  refine z_op (ck_at dt_one 267 rfl) rfl (o_const _) ?_
  exact z_retI (ck_at dt_one 268 rfl) rt_one w
def r_one_74 (m : Nat) (h0 : qH) (d : Nat) (s0 : Int) (B : qB) (Q : qO → qB → Prop) : Prop := R32 s0 ∧ (¬ s0 = 0 → Q (.inl (some (iv 0))) (u2 (u2 B 69 0 ((B 69 0) + 1)) 68 0 ((B 68 0) + 1))) ∧ (s0 = 0 → Q (.inl (some (iv 1))) B)
theorem r_one_74_ok {m : Nat} {h0 : qH} {d : Nat} {s0 : Int} {B : qB} {Q : qO → qB → Prop} (hm : m + 100 < 1000000000) (w : r_one_74 m h0 d s0 B Q) : qZ m h0 (d + 1) k_one 74 [some (.ref m), none, none] [iv s0] B Q := by
  unfold r_one_74 at w
  obtain ⟨p1, w⟩ := w
  refine z_ifz (t := 79) (ck_at dt_one 39 rfl) rfl p1 ?_ ?_
  · intro q; have w := w.1 q
    refine z_ldk (ok := q_isA) (n := 0) (ck_at dt_one 42 rfl) rfl rfl (fun _ => rfl) rfl rfl ?_
    refine z_op (ck_at dt_one 43 rfl) rfl rfl ?_
    refine z_getI (j := 69) (ck_at dt_one 44 rfl) own_one (mf_at 71 rfl) (by decide) rfl ?_
    refine z_op (ck_at dt_one 45 rfl) rfl (o_const _) ?_
    refine z_op (ck_at dt_one 46 rfl) rfl o_iadd ?_
    refine z_putI (j := 69) hm (ck_at dt_one 47 rfl) own_one (mf_at 71 rfl) (by decide) rfl rfl rfl ?_
    refine z_ldk (ok := q_isA) (n := 0) (ck_at dt_one 48 rfl) rfl rfl (fun _ => rfl) rfl rfl ?_
    refine z_op (ck_at dt_one 49 rfl) rfl rfl ?_
    refine z_getI (j := 68) (ck_at dt_one 50 rfl) own_one (mf_at 70 rfl) (by decide) rfl ?_
    refine z_op (ck_at dt_one 51 rfl) rfl (o_const _) ?_
    refine z_op (ck_at dt_one 52 rfl) rfl o_iadd ?_
    refine z_putI (j := 68) hm (ck_at dt_one 53 rfl) own_one (mf_at 70 rfl) (by decide) rfl rfl rfl ?_
    refine z_goto (t := 487) (ck_at dt_one 54 rfl) rfl ?_
    refine z_op (ck_at dt_one 267 rfl) rfl (o_const _) ?_
    exact z_retI (ck_at dt_one 268 rfl) rt_one w
  · intro q; have w := w.2 q
    refine z_op (ck_at dt_one 40 rfl) rfl (o_const _) ?_
    exact z_retI (ck_at dt_one 41 rfl) rt_one w
def r_one_71 (m : Nat) (h0 : qH) (d : Nat) (s1 s2 : Int) (B : qB) (Q : qO → qB → Prop) : Prop := qZ m h0 d k_has 0 [some (.ref m), some (iv s1), some (iv s2)] [] B (fun o B' => ∃ v : Int, o = .inl (some (iv v)) ∧ r_one_74 m h0 d v B' Q)
theorem r_one_71_ok {m : Nat} {h0 : qH} {d : Nat} {s1 s2 : Int} {B : qB} {Q : qO → qB → Prop} (hm : m + 100 < 1000000000) (w : r_one_71 m h0 d s1 s2 B Q) : qZ m h0 (d + 1) k_one 71 [some (.ref m), none, none] [iv s2, iv s1, .ref m] B Q := by
  unfold r_one_71 at w
  refine z_virt (k' := k_has) (n := 0) (as := [iv s1, iv s2]) (r := []) (ck_at dt_one 38 rfl) own_one (mm_at 44 rfl) vk_has rfl nl_has rfl rfl rfl rfl ?_
  exact w.mono (Nat.le_refl _) (fun o B' ⟨v, ho, w⟩ => ⟨some (iv v), ho, z_wk (r_one_74_ok hm w) ⟨rfl, trivial⟩⟩)
def r_one_38 (m : Nat) (h0 : qH) (d : Nat) (x1 : Int) (B : qB) (Q : qO → qB → Prop) : Prop := R32 x1 ∧ (¬ x1 = 0 → (¬ x1 = 1 → (¬ x1 = 2 → (¬ x1 = 3 → (¬ x1 = 4 → (¬ x1 = 5 → (¬ x1 = 6 → (¬ x1 = 11 → (¬ x1 = 7 → (¬ x1 = 8 → qZ m h0 d k_isEdge 0 [some (.ref m), some (iv (B 69 0)), none, none] [] B (fun o B' => ∃ v : Int, o = .inl (some (iv v)) ∧ r_one_451 m h0 d x1 v B' Q)) ∧ (x1 = 8 → R32 (B 69 0) ∧ R32 (B 57 0) ∧ (¬ B 69 0 = B 57 0 → r_one_470 m h0 d 0 B Q) ∧ (B 69 0 = B 57 0 → r_one_470 m h0 d 1 B Q))) ∧ (x1 = 7 → R32 (B 69 0) ∧ (¬ B 69 0 = 0 → r_one_470 m h0 d 0 B Q) ∧ (B 69 0 = 0 → r_one_470 m h0 d 1 B Q))) ∧ (x1 = 11 → Q (.inl (some (iv 2))) B)) ∧ (x1 = 6 → Q (.inl (some (iv 3))) B)) ∧ (x1 = 5 → 0 ≤ B 68 0 ∧ B 68 0 < 6000 ∧ 0 ≤ B 43 (B 68 0) ∧ B 43 (B 68 0) < 800 ∧ R32 (B 51 (B 43 (B 68 0))) ∧ R32 (B 69 0) ∧ (¬ B 51 (B 43 (B 68 0)) = B 69 0 → qZ m h0 d k_before 0 [some (.ref m), some (iv (32 + (B 43 (B 68 0)))), some (iv (B 51 (B 43 (B 68 0))))] [] B (fun o B' => o = .inl none ∧ r_one_353 m h0 d B' Q)) ∧ (B 51 (B 43 (B 68 0)) = B 69 0 → Q (.inl (some (iv 1))) B))) ∧ (x1 = 4 → 0 ≤ B 68 0 ∧ B 68 0 < 6000 ∧ 0 ≤ B 43 (B 68 0) ∧ B 43 (B 68 0) < 800 ∧ qZ m h0 d k_before 0 [some (.ref m), some (iv (32 + (B 43 (B 68 0)))), some (iv (B 51 (B 43 (B 68 0))))] [] B (fun o B' => o = .inl none ∧ r_one_264 m h0 d B' Q))) ∧ (x1 = 3 → 0 ≤ B 68 0 ∧ B 68 0 < 6000 ∧ 0 ≤ B 43 (B 68 0) ∧ B 43 (B 68 0) < 20 ∧ qZ m h0 d k_before 0 [some (.ref m), some (iv (B 43 (B 68 0))), some (iv (B 49 (B 43 (B 68 0))))] [] B (fun o B' => o = .inl none ∧ r_one_198 m h0 d B' Q))) ∧ (x1 = 2 → 0 ≤ B 68 0 ∧ B 68 0 < 6000 ∧ Q (.inl (some (iv 0))) (u2 B 68 0 (B 43 (B 68 0))))) ∧ (x1 = 1 → 0 ≤ B 68 0 ∧ B 68 0 < 6000 ∧ qZ m h0 d k_push 0 [some (.ref m), some (iv ((8192 * (B 69 0)) + (B 44 (B 68 0))))] [] B (fun o B' => o = .inl none ∧ r_one_129 m h0 d B' Q))) ∧ (x1 = 0 → R32 (B 69 0) ∧ R32 (B 57 0) ∧ (B 69 0 = B 57 0 → Q (.inl (some (iv 1))) B) ∧ (¬ B 69 0 = B 57 0 → 0 ≤ B 68 0 ∧ B 68 0 < 6000 ∧ qZ m h0 d k_byteAt 0 [some (.ref m), some (iv (B 69 0))] [] B (fun o B' => ∃ v : Int, o = .inl (some (iv v)) ∧ r_one_71 m h0 d (B 43 (B 68 0)) v B' Q)))
theorem r_one_38_ok {m : Nat} {h0 : qH} {d : Nat} {x1 : Int} {B : qB} {Q : qO → qB → Prop} (hm : m + 100 < 1000000000) (w : r_one_38 m h0 d x1 B Q) : qZ m h0 (d + 1) k_one 38 [some (.ref m), some (iv x1), none] [] B Q := by
  unfold r_one_38 at w
  obtain ⟨p1, w⟩ := w
  refine z_ldk (ok := q_isI) (n := 1) (ck_at dt_one 21 rfl) rfl rfl (fun _ => rfl) rfl rfl ?_
  refine z_ifz (t := 102) (ck_at dt_one 22 rfl) rfl p1 ?_ ?_
  · intro q; have w := w.1 q
    refine z_ldk (ok := q_isI) (n := 1) (ck_at dt_one 55 rfl) rfl rfl (fun _ => rfl) rfl rfl ?_
    refine z_op (ck_at dt_one 56 rfl) rfl (o_const _) ?_
    refine z_icmp (t := 145) (ck_at dt_one 57 rfl) rfl p1 ⟨by decide, by decide⟩ ?_ ?_
    · intro q; have w := w.1 q
      refine z_ldk (ok := q_isI) (n := 1) (ck_at dt_one 78 rfl) rfl rfl (fun _ => rfl) rfl rfl ?_
      refine z_op (ck_at dt_one 79 rfl) rfl (o_const _) ?_
      refine z_icmp (t := 166) (ck_at dt_one 80 rfl) rfl p1 ⟨by decide, by decide⟩ ?_ ?_
      · intro q; have w := w.1 q
        refine z_ldk (ok := q_isI) (n := 1) (ck_at dt_one 89 rfl) rfl rfl (fun _ => rfl) rfl rfl ?_
        refine z_op (ck_at dt_one 90 rfl) rfl (o_const _) ?_
        refine z_icmp (t := 229) (ck_at dt_one 91 rfl) rfl p1 ⟨by decide, by decide⟩ ?_ ?_
        · intro q; have w := w.1 q
          refine z_ldk (ok := q_isI) (n := 1) (ck_at dt_one 124 rfl) rfl rfl (fun _ => rfl) rfl rfl ?_
          refine z_op (ck_at dt_one 125 rfl) rfl (o_const _) ?_
          refine z_icmp (t := 295) (ck_at dt_one 126 rfl) rfl p1 ⟨by decide, by decide⟩ ?_ ?_
          · intro q; have w := w.1 q
            refine z_ldk (ok := q_isI) (n := 1) (ck_at dt_one 161 rfl) rfl rfl (fun _ => rfl) rfl rfl ?_
            refine z_op (ck_at dt_one 162 rfl) rfl (o_const _) ?_
            refine z_icmp (t := 381) (ck_at dt_one 163 rfl) rfl p1 ⟨by decide, by decide⟩ ?_ ?_
            · intro q; have w := w.1 q
              refine z_ldk (ok := q_isI) (n := 1) (ck_at dt_one 210 rfl) rfl rfl (fun _ => rfl) rfl rfl ?_
              refine z_op (ck_at dt_one 211 rfl) rfl (o_bipush _ (by decide)) ?_
              refine z_icmp (t := 389) (ck_at dt_one 212 rfl) rfl p1 ⟨by decide, by decide⟩ ?_ ?_
              · intro q; have w := w.1 q
                refine z_ldk (ok := q_isI) (n := 1) (ck_at dt_one 215 rfl) rfl rfl (fun _ => rfl) rfl rfl ?_
                refine z_op (ck_at dt_one 216 rfl) rfl (o_bipush _ (by decide)) ?_
                refine z_icmp (t := 397) (ck_at dt_one 217 rfl) rfl p1 ⟨by decide, by decide⟩ ?_ ?_
                · intro q; have w := w.1 q
                  refine z_ldk (ok := q_isI) (n := 1) (ck_at dt_one 220 rfl) rfl rfl (fun _ => rfl) rfl rfl ?_
                  refine z_op (ck_at dt_one 221 rfl) rfl (o_bipush _ (by decide)) ?_
                  refine z_icmp (t := 418) (ck_at dt_one 222 rfl) rfl p1 ⟨by decide, by decide⟩ ?_ ?_
                  · intro q; have w := w.1 q
                    refine z_ldk (ok := q_isI) (n := 1) (ck_at dt_one 230 rfl) rfl rfl (fun _ => rfl) rfl rfl ?_
                    refine z_op (ck_at dt_one 231 rfl) rfl (o_bipush _ (by decide)) ?_
                    refine z_icmp (t := 443) (ck_at dt_one 232 rfl) rfl p1 ⟨by decide, by decide⟩ ?_ ?_
                    · intro q; have w := w.1 q
                      refine z_ldk (ok := q_isA) (n := 0) (ck_at dt_one 242 rfl) rfl rfl (fun _ => rfl) rfl rfl ?_
                      refine z_ldk (ok := q_isA) (n := 0) (ck_at dt_one 243 rfl) rfl rfl (fun _ => rfl) rfl rfl ?_
                      refine z_getI (j := 69) (ck_at dt_one 244 rfl) own_one (mf_at 71 rfl) (by decide) rfl ?_
                      refine z_virt (k' := k_isEdge) (n := 2) (as := [iv (B 69 0)]) (r := []) (ck_at dt_one 245 rfl) own_one (mm_at 46 rfl) vk_isEdge rfl nl_isEdge rfl rfl rfl rfl ?_
                      exact w.mono (Nat.le_refl _) (fun o B' ⟨v, ho, w⟩ => ⟨some (iv v), ho, z_wk (r_one_451_ok hm w) ⟨rfl, ⟨rfl, trivial⟩⟩⟩)
                    · intro q; have w := w.2 q
                      obtain ⟨p2, p3, w⟩ := w
                      refine z_ldk (ok := q_isA) (n := 0) (ck_at dt_one 233 rfl) rfl rfl (fun _ => rfl) rfl rfl ?_
                      refine z_getI (j := 69) (ck_at dt_one 234 rfl) own_one (mf_at 71 rfl) (by decide) rfl ?_
                      refine z_ldk (ok := q_isA) (n := 0) (ck_at dt_one 235 rfl) rfl rfl (fun _ => rfl) rfl rfl ?_
                      refine z_getI (j := 57) (ck_at dt_one 236 rfl) own_one (mf_at 66 rfl) (by decide) rfl ?_
                      refine z_icmp (t := 439) (ck_at dt_one 237 rfl) rfl p2 p3 ?_ ?_
                      · intro q; have w := w.1 q
                        refine z_op (ck_at dt_one 240 rfl) rfl (o_const _) ?_
                        refine z_goto (t := 470) (ck_at dt_one 241 rfl) rfl ?_
                        exact z_wk (r_one_470_ok hm w) ⟨rfl, trivial⟩
                      · intro q; have w := w.2 q
                        refine z_op (ck_at dt_one 238 rfl) rfl (o_const _) ?_
                        refine z_goto (t := 470) (ck_at dt_one 239 rfl) rfl ?_
                        exact z_wk (r_one_470_ok hm w) ⟨rfl, trivial⟩
                  · intro q; have w := w.2 q
                    obtain ⟨p4, w⟩ := w
                    refine z_ldk (ok := q_isA) (n := 0) (ck_at dt_one 223 rfl) rfl rfl (fun _ => rfl) rfl rfl ?_
                    refine z_getI (j := 69) (ck_at dt_one 224 rfl) own_one (mf_at 71 rfl) (by decide) rfl ?_
                    refine z_ifz (t := 414) (ck_at dt_one 225 rfl) rfl p4 ?_ ?_
                    · intro q; have w := w.1 q
                      refine z_op (ck_at dt_one 228 rfl) rfl (o_const _) ?_
                      refine z_goto (t := 470) (ck_at dt_one 229 rfl) rfl ?_
                      exact z_wk (r_one_470_ok hm w) ⟨rfl, trivial⟩
                    · intro q; have w := w.2 q
                      refine z_op (ck_at dt_one 226 rfl) rfl (o_const _) ?_
                      refine z_goto (t := 470) (ck_at dt_one 227 rfl) rfl ?_
                      exact z_wk (r_one_470_ok hm w) ⟨rfl, trivial⟩
                · intro q; have w := w.2 q
                  refine z_op (ck_at dt_one 218 rfl) rfl (o_const _) ?_
                  exact z_retI (ck_at dt_one 219 rfl) rt_one w
              · intro q; have w := w.2 q
                refine z_op (ck_at dt_one 213 rfl) rfl (o_const _) ?_
                exact z_retI (ck_at dt_one 214 rfl) rt_one w
            · intro q; have w := w.2 q
              obtain ⟨p5, p6, p7, p8, p9, p10, w⟩ := w
              refine z_ldk (ok := q_isA) (n := 0) (ck_at dt_one 164 rfl) rfl rfl (fun _ => rfl) rfl rfl ?_
              refine z_getR (j := 51) (a := 34) (ck_at dt_one 165 rfl) own_one (mf_at 35 rfl) (by decide) rfl rfl ?_
              refine z_ldk (ok := q_isA) (n := 0) (ck_at dt_one 166 rfl) rfl rfl (fun _ => rfl) rfl rfl ?_
              refine z_getR (j := 43) (a := 29) (ck_at dt_one 167 rfl) own_one (mf_at 30 rfl) (by decide) rfl rfl ?_
              refine z_ldk (ok := q_isA) (n := 0) (ck_at dt_one 168 rfl) rfl rfl (fun _ => rfl) rfl rfl ?_
              refine z_getI (j := 68) (ck_at dt_one 169 rfl) own_one (mf_at 70 rfl) (by decide) rfl ?_
              refine z_iald (j := 43) (n := 6000) (ck_at dt_one 170 rfl) rfl rfl rfl p5 p6 ?_
              refine z_iald (j := 51) (n := 800) (ck_at dt_one 171 rfl) rfl rfl rfl p7 p8 ?_
              refine z_ldk (ok := q_isA) (n := 0) (ck_at dt_one 172 rfl) rfl rfl (fun _ => rfl) rfl rfl ?_
              refine z_getI (j := 69) (ck_at dt_one 173 rfl) own_one (mf_at 71 rfl) (by decide) rfl ?_
              refine z_icmp (t := 323) (ck_at dt_one 174 rfl) rfl p9 p10 ?_ ?_
              · intro q; have w := w.1 q
                refine z_ldk (ok := q_isA) (n := 0) (ck_at dt_one 177 rfl) rfl rfl (fun _ => rfl) rfl rfl ?_
                refine z_op (ck_at dt_one 178 rfl) rfl (o_bipush _ (by decide)) ?_
                refine z_ldk (ok := q_isA) (n := 0) (ck_at dt_one 179 rfl) rfl rfl (fun _ => rfl) rfl rfl ?_
                refine z_getR (j := 43) (a := 29) (ck_at dt_one 180 rfl) own_one (mf_at 30 rfl) (by decide) rfl rfl ?_
                refine z_ldk (ok := q_isA) (n := 0) (ck_at dt_one 181 rfl) rfl rfl (fun _ => rfl) rfl rfl ?_
                refine z_getI (j := 68) (ck_at dt_one 182 rfl) own_one (mf_at 70 rfl) (by decide) rfl ?_
                refine z_iald (j := 43) (n := 6000) (ck_at dt_one 183 rfl) rfl rfl rfl p5 p6 ?_
                refine z_op (ck_at dt_one 184 rfl) rfl o_iadd ?_
                refine z_ldk (ok := q_isA) (n := 0) (ck_at dt_one 185 rfl) rfl rfl (fun _ => rfl) rfl rfl ?_
                refine z_getR (j := 51) (a := 34) (ck_at dt_one 186 rfl) own_one (mf_at 35 rfl) (by decide) rfl rfl ?_
                refine z_ldk (ok := q_isA) (n := 0) (ck_at dt_one 187 rfl) rfl rfl (fun _ => rfl) rfl rfl ?_
                refine z_getR (j := 43) (a := 29) (ck_at dt_one 188 rfl) own_one (mf_at 30 rfl) (by decide) rfl rfl ?_
                refine z_ldk (ok := q_isA) (n := 0) (ck_at dt_one 189 rfl) rfl rfl (fun _ => rfl) rfl rfl ?_
                refine z_getI (j := 68) (ck_at dt_one 190 rfl) own_one (mf_at 70 rfl) (by decide) rfl ?_
                refine z_iald (j := 43) (n := 6000) (ck_at dt_one 191 rfl) rfl rfl rfl p5 p6 ?_
                refine z_iald (j := 51) (n := 800) (ck_at dt_one 192 rfl) rfl rfl rfl p7 p8 ?_
                refine z_virt (k' := k_before) (n := 0) (as := [iv (32 + (B 43 (B 68 0))), iv (B 51 (B 43 (B 68 0)))]) (r := []) (ck_at dt_one 193 rfl) own_one (mm_at 45 rfl) vk_before rfl nl_before rfl rfl rfl rfl ?_
                exact w.mono (Nat.le_refl _) (fun o B' ⟨ho, w⟩ => ⟨none, ho, z_wk (r_one_353_ok hm w) ⟨rfl, trivial⟩⟩)
              · intro q; have w := w.2 q
                refine z_op (ck_at dt_one 175 rfl) rfl (o_const _) ?_
                exact z_retI (ck_at dt_one 176 rfl) rt_one w
          · intro q; have w := w.2 q
            obtain ⟨p11, p12, p13, p14, w⟩ := w
            refine z_ldk (ok := q_isA) (n := 0) (ck_at dt_one 127 rfl) rfl rfl (fun _ => rfl) rfl rfl ?_
            refine z_op (ck_at dt_one 128 rfl) rfl (o_bipush _ (by decide)) ?_
            refine z_ldk (ok := q_isA) (n := 0) (ck_at dt_one 129 rfl) rfl rfl (fun _ => rfl) rfl rfl ?_
            refine z_getR (j := 43) (a := 29) (ck_at dt_one 130 rfl) own_one (mf_at 30 rfl) (by decide) rfl rfl ?_
            refine z_ldk (ok := q_isA) (n := 0) (ck_at dt_one 131 rfl) rfl rfl (fun _ => rfl) rfl rfl ?_
            refine z_getI (j := 68) (ck_at dt_one 132 rfl) own_one (mf_at 70 rfl) (by decide) rfl ?_
            refine z_iald (j := 43) (n := 6000) (ck_at dt_one 133 rfl) rfl rfl rfl p11 p12 ?_
            refine z_op (ck_at dt_one 134 rfl) rfl o_iadd ?_
            refine z_ldk (ok := q_isA) (n := 0) (ck_at dt_one 135 rfl) rfl rfl (fun _ => rfl) rfl rfl ?_
            refine z_getR (j := 51) (a := 34) (ck_at dt_one 136 rfl) own_one (mf_at 35 rfl) (by decide) rfl rfl ?_
            refine z_ldk (ok := q_isA) (n := 0) (ck_at dt_one 137 rfl) rfl rfl (fun _ => rfl) rfl rfl ?_
            refine z_getR (j := 43) (a := 29) (ck_at dt_one 138 rfl) own_one (mf_at 30 rfl) (by decide) rfl rfl ?_
            refine z_ldk (ok := q_isA) (n := 0) (ck_at dt_one 139 rfl) rfl rfl (fun _ => rfl) rfl rfl ?_
            refine z_getI (j := 68) (ck_at dt_one 140 rfl) own_one (mf_at 70 rfl) (by decide) rfl ?_
            refine z_iald (j := 43) (n := 6000) (ck_at dt_one 141 rfl) rfl rfl rfl p11 p12 ?_
            refine z_iald (j := 51) (n := 800) (ck_at dt_one 142 rfl) rfl rfl rfl p13 p14 ?_
            refine z_virt (k' := k_before) (n := 0) (as := [iv (32 + (B 43 (B 68 0))), iv (B 51 (B 43 (B 68 0)))]) (r := []) (ck_at dt_one 143 rfl) own_one (mm_at 45 rfl) vk_before rfl nl_before rfl rfl rfl rfl ?_
            exact w.mono (Nat.le_refl _) (fun o B' ⟨ho, w⟩ => ⟨none, ho, z_wk (r_one_264_ok hm w) ⟨rfl, trivial⟩⟩)
        · intro q; have w := w.2 q
          obtain ⟨p15, p16, p17, p18, w⟩ := w
          refine z_ldk (ok := q_isA) (n := 0) (ck_at dt_one 92 rfl) rfl rfl (fun _ => rfl) rfl rfl ?_
          refine z_ldk (ok := q_isA) (n := 0) (ck_at dt_one 93 rfl) rfl rfl (fun _ => rfl) rfl rfl ?_
          refine z_getR (j := 43) (a := 29) (ck_at dt_one 94 rfl) own_one (mf_at 30 rfl) (by decide) rfl rfl ?_
          refine z_ldk (ok := q_isA) (n := 0) (ck_at dt_one 95 rfl) rfl rfl (fun _ => rfl) rfl rfl ?_
          refine z_getI (j := 68) (ck_at dt_one 96 rfl) own_one (mf_at 70 rfl) (by decide) rfl ?_
          refine z_iald (j := 43) (n := 6000) (ck_at dt_one 97 rfl) rfl rfl rfl p15 p16 ?_
          refine z_ldk (ok := q_isA) (n := 0) (ck_at dt_one 98 rfl) rfl rfl (fun _ => rfl) rfl rfl ?_
          refine z_getR (j := 49) (a := 32) (ck_at dt_one 99 rfl) own_one (mf_at 33 rfl) (by decide) rfl rfl ?_
          refine z_ldk (ok := q_isA) (n := 0) (ck_at dt_one 100 rfl) rfl rfl (fun _ => rfl) rfl rfl ?_
          refine z_getR (j := 43) (a := 29) (ck_at dt_one 101 rfl) own_one (mf_at 30 rfl) (by decide) rfl rfl ?_
          refine z_ldk (ok := q_isA) (n := 0) (ck_at dt_one 102 rfl) rfl rfl (fun _ => rfl) rfl rfl ?_
          refine z_getI (j := 68) (ck_at dt_one 103 rfl) own_one (mf_at 70 rfl) (by decide) rfl ?_
          refine z_iald (j := 43) (n := 6000) (ck_at dt_one 104 rfl) rfl rfl rfl p15 p16 ?_
          refine z_iald (j := 49) (n := 20) (ck_at dt_one 105 rfl) rfl rfl rfl p17 p18 ?_
          refine z_virt (k' := k_before) (n := 0) (as := [iv (B 43 (B 68 0)), iv (B 49 (B 43 (B 68 0)))]) (r := []) (ck_at dt_one 106 rfl) own_one (mm_at 45 rfl) vk_before rfl nl_before rfl rfl rfl rfl ?_
          exact w.mono (Nat.le_refl _) (fun o B' ⟨ho, w⟩ => ⟨none, ho, z_wk (r_one_198_ok hm w) ⟨rfl, trivial⟩⟩)
      · intro q; have w := w.2 q
        obtain ⟨p19, p20, w⟩ := w
        refine z_ldk (ok := q_isA) (n := 0) (ck_at dt_one 81 rfl) rfl rfl (fun _ => rfl) rfl rfl ?_
        refine z_ldk (ok := q_isA) (n := 0) (ck_at dt_one 82 rfl) rfl rfl (fun _ => rfl) rfl rfl ?_
        refine z_getR (j := 43) (a := 29) (ck_at dt_one 83 rfl) own_one (mf_at 30 rfl) (by decide) rfl rfl ?_
        refine z_ldk (ok := q_isA) (n := 0) (ck_at dt_one 84 rfl) rfl rfl (fun _ => rfl) rfl rfl ?_
        refine z_getI (j := 68) (ck_at dt_one 85 rfl) own_one (mf_at 70 rfl) (by decide) rfl ?_
        refine z_iald (j := 43) (n := 6000) (ck_at dt_one 86 rfl) rfl rfl rfl p19 p20 ?_
        refine z_putI (j := 68) hm (ck_at dt_one 87 rfl) own_one (mf_at 70 rfl) (by decide) rfl rfl rfl ?_
        refine z_goto (t := 487) (ck_at dt_one 88 rfl) rfl ?_
        refine z_op (ck_at dt_one 267 rfl) rfl (o_const _) ?_
        exact z_retI (ck_at dt_one 268 rfl) rt_one w
    · intro q; have w := w.2 q
      obtain ⟨p21, p22, w⟩ := w
      refine z_ldk (ok := q_isA) (n := 0) (ck_at dt_one 58 rfl) rfl rfl (fun _ => rfl) rfl rfl ?_
      refine z_op (ck_at dt_one 59 rfl) rfl (o_sipush _ (by decide)) ?_
      refine z_ldk (ok := q_isA) (n := 0) (ck_at dt_one 60 rfl) rfl rfl (fun _ => rfl) rfl rfl ?_
      refine z_getI (j := 69) (ck_at dt_one 61 rfl) own_one (mf_at 71 rfl) (by decide) rfl ?_
      refine z_op (ck_at dt_one 62 rfl) rfl o_imul ?_
      refine z_ldk (ok := q_isA) (n := 0) (ck_at dt_one 63 rfl) rfl rfl (fun _ => rfl) rfl rfl ?_
      refine z_getR (j := 44) (a := 30) (ck_at dt_one 64 rfl) own_one (mf_at 31 rfl) (by decide) rfl rfl ?_
      refine z_ldk (ok := q_isA) (n := 0) (ck_at dt_one 65 rfl) rfl rfl (fun _ => rfl) rfl rfl ?_
      refine z_getI (j := 68) (ck_at dt_one 66 rfl) own_one (mf_at 70 rfl) (by decide) rfl ?_
      refine z_iald (j := 44) (n := 6000) (ck_at dt_one 67 rfl) rfl rfl rfl p21 p22 ?_
      refine z_op (ck_at dt_one 68 rfl) rfl o_iadd ?_
      refine z_virt (k' := k_push) (n := 0) (as := [iv ((8192 * (B 69 0)) + (B 44 (B 68 0)))]) (r := []) (ck_at dt_one 69 rfl) own_one (mm_at 38 rfl) vk_push rfl nl_push rfl rfl rfl rfl ?_
      exact w.mono (Nat.le_refl _) (fun o B' ⟨ho, w⟩ => ⟨none, ho, z_wk (r_one_129_ok hm w) ⟨rfl, trivial⟩⟩)
  · intro q; have w := w.2 q
    obtain ⟨p23, p24, w⟩ := w
    refine z_ldk (ok := q_isA) (n := 0) (ck_at dt_one 23 rfl) rfl rfl (fun _ => rfl) rfl rfl ?_
    refine z_getI (j := 69) (ck_at dt_one 24 rfl) own_one (mf_at 71 rfl) (by decide) rfl ?_
    refine z_ldk (ok := q_isA) (n := 0) (ck_at dt_one 25 rfl) rfl rfl (fun _ => rfl) rfl rfl ?_
    refine z_getI (j := 57) (ck_at dt_one 26 rfl) own_one (mf_at 66 rfl) (by decide) rfl ?_
    refine z_icmp (t := 77) (ck_at dt_one 27 rfl) rfl p23 p24 ?_ ?_
    · intro q; have w := w.1 q
      refine z_op (ck_at dt_one 40 rfl) rfl (o_const _) ?_
      exact z_retI (ck_at dt_one 41 rfl) rt_one w
    · intro q; have w := w.2 q
      obtain ⟨p25, p26, w⟩ := w
      refine z_ldk (ok := q_isA) (n := 0) (ck_at dt_one 28 rfl) rfl rfl (fun _ => rfl) rfl rfl ?_
      refine z_ldk (ok := q_isA) (n := 0) (ck_at dt_one 29 rfl) rfl rfl (fun _ => rfl) rfl rfl ?_
      refine z_getR (j := 43) (a := 29) (ck_at dt_one 30 rfl) own_one (mf_at 30 rfl) (by decide) rfl rfl ?_
      refine z_ldk (ok := q_isA) (n := 0) (ck_at dt_one 31 rfl) rfl rfl (fun _ => rfl) rfl rfl ?_
      refine z_getI (j := 68) (ck_at dt_one 32 rfl) own_one (mf_at 70 rfl) (by decide) rfl ?_
      refine z_iald (j := 43) (n := 6000) (ck_at dt_one 33 rfl) rfl rfl rfl p25 p26 ?_
      refine z_ldk (ok := q_isA) (n := 0) (ck_at dt_one 34 rfl) rfl rfl (fun _ => rfl) rfl rfl ?_
      refine z_ldk (ok := q_isA) (n := 0) (ck_at dt_one 35 rfl) rfl rfl (fun _ => rfl) rfl rfl ?_
      refine z_getI (j := 69) (ck_at dt_one 36 rfl) own_one (mf_at 71 rfl) (by decide) rfl ?_
      refine z_virt (k' := k_byteAt) (n := 0) (as := [iv (B 69 0)]) (r := [iv (B 43 (B 68 0)), .ref m]) (ck_at dt_one 37 rfl) own_one (mm_at 43 rfl) vk_byteAt rfl nl_byteAt rfl rfl rfl rfl ?_
      exact w.mono (Nat.le_refl _) (fun o B' ⟨v, ho, w⟩ => ⟨some (iv v), ho, z_wk (r_one_71_ok hm w) ⟨rfl, trivial⟩⟩)
def r_one_33 (m : Nat) (h0 : qH) (d : Nat) (x1 s0 : Int) (B : qB) (Q : qO → qB → Prop) : Prop := R32 s0 ∧ (s0 = 0 → r_one_38 m h0 d x1 B Q) ∧ (¬ s0 = 0 → Q (.inl (some (iv 1))) B)
theorem r_one_33_ok {m : Nat} {h0 : qH} {d : Nat} {x1 s0 : Int} {B : qB} {Q : qO → qB → Prop} (hm : m + 100 < 1000000000) (w : r_one_33 m h0 d x1 s0 B Q) : qZ m h0 (d + 1) k_one 33 [some (.ref m), some (iv x1), none] [iv s0] B Q := by
  unfold r_one_33 at w
  obtain ⟨p1, w⟩ := w
  refine z_ifz (t := 38) (ck_at dt_one 18 rfl) rfl p1 ?_ ?_
  · intro q; have w := w.1 q
    exact z_wk (r_one_38_ok hm w) ⟨rfl, ⟨rfl, trivial⟩⟩
  · intro q; have w := w.2 q
    refine z_op (ck_at dt_one 19 rfl) rfl (o_const _) ?_
    exact z_retI (ck_at dt_one 20 rfl) rt_one w
def r_one_21 (m : Nat) (h0 : qH) (d : Nat) (x1 : Int) (B : qB) (Q : qO → qB → Prop) : Prop := qZ m h0 d k_wasHere 0 [some (.ref m), some (iv (B 68 0)), some (iv (B 69 0)), none, none, none] [] B (fun o B' => ∃ v : Int, o = .inl (some (iv v)) ∧ r_one_33 m h0 d x1 v B' Q)
theorem r_one_21_ok {m : Nat} {h0 : qH} {d : Nat} {x1 : Int} {B : qB} {Q : qO → qB → Prop} (hm : m + 100 < 1000000000) (w : r_one_21 m h0 d x1 B Q) : qZ m h0 (d + 1) k_one 21 [some (.ref m), some (iv x1), none] [] B Q := by
  unfold r_one_21 at w
  refine z_ldk (ok := q_isA) (n := 0) (ck_at dt_one 12 rfl) rfl rfl (fun _ => rfl) rfl rfl ?_
  refine z_ldk (ok := q_isA) (n := 0) (ck_at dt_one 13 rfl) rfl rfl (fun _ => rfl) rfl rfl ?_
  refine z_getI (j := 68) (ck_at dt_one 14 rfl) own_one (mf_at 70 rfl) (by decide) rfl ?_
  refine z_ldk (ok := q_isA) (n := 0) (ck_at dt_one 15 rfl) rfl rfl (fun _ => rfl) rfl rfl ?_
  refine z_getI (j := 69) (ck_at dt_one 16 rfl) own_one (mf_at 71 rfl) (by decide) rfl ?_
  refine z_virt (k' := k_wasHere) (n := 3) (as := [iv (B 68 0), iv (B 69 0)]) (r := []) (ck_at dt_one 17 rfl) own_one (mm_at 42 rfl) vk_wasHere rfl nl_wasHere rfl rfl rfl rfl ?_
  exact w.mono (Nat.le_refl _) (fun o B' ⟨v, ho, w⟩ => ⟨some (iv v), ho, z_wk (r_one_33_ok hm w) ⟨rfl, ⟨rfl, trivial⟩⟩⟩)
def r_one_0 (m : Nat) (h0 : qH) (d : Nat) (B : qB) (Q : qO → qB → Prop) : Prop := 0 ≤ B 68 0 ∧ B 68 0 < 6000 ∧ R32 (B 42 (B 68 0)) ∧ (B 42 (B 68 0) = 1 → r_one_21 m h0 d (B 42 (B 68 0)) B Q) ∧ (¬ B 42 (B 68 0) = 1 → (¬ B 42 (B 68 0) = 6 → r_one_38 m h0 d (B 42 (B 68 0)) B Q) ∧ (B 42 (B 68 0) = 6 → r_one_21 m h0 d (B 42 (B 68 0)) B Q))
theorem r_one_0_ok {m : Nat} {h0 : qH} {d : Nat} {B : qB} {Q : qO → qB → Prop} (hm : m + 100 < 1000000000) (w : r_one_0 m h0 d B Q) : qZ m h0 (d + 1) k_one 0 [some (.ref m), none, none] [] B Q := by
  unfold r_one_0 at w
  obtain ⟨p1, p2, p3, w⟩ := w
  refine z_ldk (ok := q_isA) (n := 0) (ck_at dt_one 0 rfl) rfl rfl (fun _ => rfl) rfl rfl ?_
  refine z_getR (j := 42) (a := 28) (ck_at dt_one 1 rfl) own_one (mf_at 29 rfl) (by decide) rfl rfl ?_
  refine z_ldk (ok := q_isA) (n := 0) (ck_at dt_one 2 rfl) rfl rfl (fun _ => rfl) rfl rfl ?_
  refine z_getI (j := 68) (ck_at dt_one 3 rfl) own_one (mf_at 70 rfl) (by decide) rfl ?_
  refine z_iald (j := 42) (n := 6000) (ck_at dt_one 4 rfl) rfl rfl rfl p1 p2 ?_
  refine z_st1 (ok := q_isI) (n := 1) (L' := [some (.ref m), some (iv (B 42 (B 68 0))), none]) (ck_at dt_one 5 rfl) rfl (fun _ => rfl) (fun _ _ => rfl) rfl nl_one (by decide) rfl rfl ?_
  refine z_ldk (ok := q_isI) (n := 1) (ck_at dt_one 6 rfl) rfl rfl (fun _ => rfl) rfl rfl ?_
  refine z_op (ck_at dt_one 7 rfl) rfl (o_const _) ?_
  refine z_icmp (t := 21) (ck_at dt_one 8 rfl) rfl p3 ⟨by decide, by decide⟩ ?_ ?_
  · intro q; have w := w.1 q
    exact z_wk (r_one_21_ok hm w) ⟨rfl, ⟨rfl, trivial⟩⟩
  · intro q; have w := w.2 q
    refine z_ldk (ok := q_isI) (n := 1) (ck_at dt_one 9 rfl) rfl rfl (fun _ => rfl) rfl rfl ?_
    refine z_op (ck_at dt_one 10 rfl) rfl (o_bipush _ (by decide)) ?_
    refine z_icmp (t := 38) (ck_at dt_one 11 rfl) rfl p3 ⟨by decide, by decide⟩ ?_ ?_
    · intro q; have w := w.1 q
      exact z_wk (r_one_38_ok hm w) ⟨rfl, ⟨rfl, trivial⟩⟩
    · intro q; have w := w.2 q
      exact z_wk (r_one_21_ok hm w) ⟨rfl, ⟨rfl, trivial⟩⟩
/-! sub(II)I -/
def t_sub : List (Nat × Instr × Nat) := [(0, .aload_n 0, 1), (1, .getfield 318, 3), (4, .istore_n 3, 1), (5, .aload_n 0, 1), (6, .sipush 8192, 3), (9, .iload_n 2, 1), (10, .imul, 1), (11, .iload_n 1, 1), (12, .iadd, 1), (13, .invokevirtual 321, 3), (16, .aload_n 0, 1), (17, .getfield 318, 3), (20, .iload_n 3, 1), (21, .if_icmp .le 94, 3), (24, .aload_n 0, 1), (25, .dup, 1), (26, .getfield 318, 3), (29, .iconst 1, 1), (30, .isub, 1), (31, .putfield 318, 3), (34, .aload_n 0, 1), (35, .getfield 143, 3), (38, .aload_n 0, 1), (39, .getfield 318, 3), (42, .iaload, 1), (43, .istore 4, 2), (45, .iload 4, 2), (47, .ifCond .ge 12, 3), (50, .aload_n 0, 1), (51, .iload 4, 2), (53, .invokevirtual 351, 3), (56, .goto (-40), 3), (59, .aload_n 0, 1), (60, .iload 4, 2), (62, .sipush 8192, 3), (65, .irem, 1), (66, .putfield 333, 3), (69, .aload_n 0, 1), (70, .iload 4, 2), (72, .sipush 8192, 3), (75, .idiv, 1), (76, .putfield 336, 3), (79, .iconst 0, 1), (80, .istore 5, 2), (82, .iload 5, 2), (84, .ifCond .ne 12, 3), (87, .aload_n 0, 1), (88, .invokevirtual 354, 3), (91, .istore 5, 2), (93, .goto (-11), 3), (96, .iload 5, 2), (98, .iconst 2, 1), (99, .if_icmp .ne 13, 3), (102, .aload_n 0, 1), (103, .iload_n 3, 1), (104, .putfield 318, 3), (107, .aload_n 0, 1), (108, .getfield 336, 3), (111, .ireturn, 1), (112, .goto (-96), 3), (115, .iconst (-1), 1), (116, .ireturn, 1)]
set_option maxRecDepth 100000 in
theorem dt_sub : q_ck k_sub t_sub = true := by decide +kernel
def r_sub_91 (m : Nat) (h0 : qH) (d : Nat) (x3 s0 : Int) (B : qB) (Q : qO → qB → Prop) : Prop := qZ m h0 (d + 1) k_sub 82 [some (.ref m), none, none, some (iv x3), none, some (iv s0)] [] B Q
theorem r_sub_91_ok {m : Nat} {h0 : qH} {d : Nat} {x3 s0 : Int} {B : qB} {Q : qO → qB → Prop} (hm : m + 100 < 1000000000) (w : r_sub_91 m h0 d x3 s0 B Q) : qZ m h0 (d + 1) k_sub 91 [some (.ref m), none, none, some (iv x3), none, none] [iv s0] B Q := by
  unfold r_sub_91 at w
  refine z_st1 (ok := q_isI) (n := 5) (L' := [some (.ref m), none, none, some (iv x3), none, some (iv s0)]) (ck_at dt_sub 48 rfl) rfl (fun _ => rfl) (fun _ _ => rfl) rfl nl_sub (by decide) trivial rfl ?_
  refine z_goto (t := 82) (ck_at dt_sub 49 rfl) rfl ?_
  exact z_wk w ⟨rfl, ⟨rfl, ⟨rfl, trivial⟩⟩⟩
def r_sub_82 (m : Nat) (h0 : qH) (d : Nat) (x3 x5 : Int) (B : qB) (Q : qO → qB → Prop) : Prop := R32 x5 ∧ (¬ x5 = 0 → (¬ x5 = 2 → qZ m h0 (d + 1) k_sub 16 [some (.ref m), none, none, some (iv x3), none, none] [] B Q) ∧ (x5 = 2 → Q (.inl (some (iv (B 69 0)))) (u2 B 66 0 x3))) ∧ (x5 = 0 → qZ m h0 d k_one 0 [some (.ref m), none, none] [] B (fun o B' => ∃ v : Int, o = .inl (some (iv v)) ∧ r_sub_91 m h0 d x3 v B' Q))
theorem r_sub_82_ok {m : Nat} {h0 : qH} {d : Nat} {x3 x5 : Int} {B : qB} {Q : qO → qB → Prop} (hm : m + 100 < 1000000000) (w : r_sub_82 m h0 d x3 x5 B Q) : qZ m h0 (d + 1) k_sub 82 [some (.ref m), none, none, some (iv x3), none, some (iv x5)] [] B Q := by
  unfold r_sub_82 at w
  obtain ⟨p1, w⟩ := w
  refine z_ldk (ok := q_isI) (n := 5) (ck_at dt_sub 44 rfl) rfl rfl (fun _ => rfl) rfl rfl ?_
  refine z_ifz (t := 96) (ck_at dt_sub 45 rfl) rfl p1 ?_ ?_
  · intro q; have w := w.1 q
    refine z_ldk (ok := q_isI) (n := 5) (ck_at dt_sub 50 rfl) rfl rfl (fun _ => rfl) rfl rfl ?_
    refine z_op (ck_at dt_sub 51 rfl) rfl (o_const _) ?_
    refine z_icmp (t := 112) (ck_at dt_sub 52 rfl) rfl p1 ⟨by decide, by decide⟩ ?_ ?_
    · intro q; have w := w.1 q
      refine z_goto (t := 16) (ck_at dt_sub 59 rfl) rfl ?_
      exact z_wk w ⟨rfl, ⟨rfl, trivial⟩⟩
    · intro q; have w := w.2 q
      refine z_ldk (ok := q_isA) (n := 0) (ck_at dt_sub 53 rfl) rfl rfl (fun _ => rfl) rfl rfl ?_
      refine z_ldk (ok := q_isI) (n := 3) (ck_at dt_sub 54 rfl) rfl rfl (fun _ => rfl) rfl rfl ?_
      refine z_putI (j := 66) hm (ck_at dt_sub 55 rfl) own_sub (mf_at 69 rfl) (by decide) rfl rfl rfl ?_
      refine z_ldk (ok := q_isA) (n := 0) (ck_at dt_sub 56 rfl) rfl rfl (fun _ => rfl) rfl rfl ?_
      refine z_getI (j := 69) (ck_at dt_sub 57 rfl) own_sub (mf_at 71 rfl) (by decide) rfl ?_
      exact z_retI (ck_at dt_sub 58 rfl) rt_sub w
  · intro q; have w := w.2 q
    refine z_ldk (ok := q_isA) (n := 0) (ck_at dt_sub 46 rfl) rfl rfl (fun _ => rfl) rfl rfl ?_
    refine z_virt (k' := k_one) (n := 2) (as := []) (r := []) (ck_at dt_sub 47 rfl) own_sub (mm_at 40 rfl) vk_one rfl nl_one rfl rfl rfl rfl ?_
    exact w.mono (Nat.le_refl _) (fun o B' ⟨v, ho, w⟩ => ⟨some (iv v), ho, z_wk (r_sub_91_ok hm w) ⟨rfl, ⟨rfl, trivial⟩⟩⟩)
def r_sub_56 (m : Nat) (h0 : qH) (d : Nat) (x3 : Int) (B : qB) (Q : qO → qB → Prop) : Prop := qZ m h0 (d + 1) k_sub 16 [some (.ref m), none, none, some (iv x3), none, none] [] B Q
theorem r_sub_56_ok {m : Nat} {h0 : qH} {d : Nat} {x3 : Int} {B : qB} {Q : qO → qB → Prop} (hm : m + 100 < 1000000000) (w : r_sub_56 m h0 d x3 B Q) : qZ m h0 (d + 1) k_sub 56 [some (.ref m), none, none, some (iv x3), none, none] [] B Q := by
  unfold r_sub_56 at w
  refine z_goto (t := 16) (ck_at dt_sub 31 rfl) rfl ?_
  exact z_wk w ⟨rfl, ⟨rfl, trivial⟩⟩
def r_sub_16 (m : Nat) (h0 : qH) (d : Nat) (x3 : Int) (B : qB) (Q : qO → qB → Prop) : Prop := R32 (B 66 0) ∧ R32 x3 ∧ (B 66 0 ≤ x3 → Q (.inl (some (iv (-1)))) B) ∧ (B 66 0 > x3 → 0 ≤ (B 66 0) - 1 ∧ (B 66 0) - 1 < 2500000 ∧ R32 (B 65 ((B 66 0) - 1)) ∧ (B 65 ((B 66 0) - 1) ≥ 0 → qZ m h0 (d + 1) k_sub 82 [some (.ref m), none, none, some (iv x3), none, some (iv 0)] [] (u2 (u2 (u2 B 66 0 ((B 66 0) - 1)) 68 0 (iRem (B 65 ((B 66 0) - 1)) 8192)) 69 0 (iDiv (B 65 ((B 66 0) - 1)) 8192)) Q) ∧ (B 65 ((B 66 0) - 1) < 0 → qZ m h0 d k_restored 0 [some (.ref m), some (iv (B 65 ((B 66 0) - 1))), none, none, none] [] (u2 B 66 0 ((B 66 0) - 1)) (fun o B' => o = .inl none ∧ r_sub_56 m h0 d x3 B' Q)))
theorem r_sub_16_ok {m : Nat} {h0 : qH} {d : Nat} {x3 : Int} {B : qB} {Q : qO → qB → Prop} (hm : m + 100 < 1000000000) (w : r_sub_16 m h0 d x3 B Q) : qZ m h0 (d + 1) k_sub 16 [some (.ref m), none, none, some (iv x3), none, none] [] B Q := by
  unfold r_sub_16 at w
  obtain ⟨p1, p2, w⟩ := w
  refine z_ldk (ok := q_isA) (n := 0) (ck_at dt_sub 10 rfl) rfl rfl (fun _ => rfl) rfl rfl ?_
  refine z_getI (j := 66) (ck_at dt_sub 11 rfl) own_sub (mf_at 69 rfl) (by decide) rfl ?_
  refine z_ldk (ok := q_isI) (n := 3) (ck_at dt_sub 12 rfl) rfl rfl (fun _ => rfl) rfl rfl ?_
  refine z_icmp (t := 115) (ck_at dt_sub 13 rfl) rfl p1 p2 ?_ ?_
  · intro q; have w := w.1 q
    refine z_op (ck_at dt_sub 60 rfl) rfl (o_const _) ?_
    exact z_retI (ck_at dt_sub 61 rfl) rt_sub w
  · intro q; have w := w.2 q
    obtain ⟨p3, p4, p5, w⟩ := w
    refine z_ldk (ok := q_isA) (n := 0) (ck_at dt_sub 14 rfl) rfl rfl (fun _ => rfl) rfl rfl ?_
    refine z_op (ck_at dt_sub 15 rfl) rfl rfl ?_
    refine z_getI (j := 66) (ck_at dt_sub 16 rfl) own_sub (mf_at 69 rfl) (by decide) rfl ?_
    refine z_op (ck_at dt_sub 17 rfl) rfl (o_const _) ?_
    refine z_op (ck_at dt_sub 18 rfl) rfl o_isub ?_
    refine z_putI (j := 66) hm (ck_at dt_sub 19 rfl) own_sub (mf_at 69 rfl) (by decide) rfl rfl rfl ?_
    refine z_ldk (ok := q_isA) (n := 0) (ck_at dt_sub 20 rfl) rfl rfl (fun _ => rfl) rfl rfl ?_
    refine z_getR (j := 65) (a := 42) (ck_at dt_sub 21 rfl) own_sub (mf_at 43 rfl) (by decide) rfl rfl ?_
    refine z_ldk (ok := q_isA) (n := 0) (ck_at dt_sub 22 rfl) rfl rfl (fun _ => rfl) rfl rfl ?_
    refine z_getI (j := 66) (ck_at dt_sub 23 rfl) own_sub (mf_at 69 rfl) (by decide) rfl ?_
    refine z_iald (j := 65) (n := 2500000) (ck_at dt_sub 24 rfl) rfl rfl rfl p3 p4 ?_
    refine z_st1 (ok := q_isI) (n := 4) (L' := [some (.ref m), none, none, some (iv x3), some (iv (B 65 ((B 66 0) - 1))), none]) (ck_at dt_sub 25 rfl) rfl (fun _ => rfl) (fun _ _ => rfl) rfl nl_sub (by decide) rfl rfl ?_
    refine z_ldk (ok := q_isI) (n := 4) (ck_at dt_sub 26 rfl) rfl rfl (fun _ => rfl) rfl rfl ?_
    refine z_ifz (t := 59) (ck_at dt_sub 27 rfl) rfl p5 ?_ ?_
    · intro q; have w := w.1 q
      refine z_ldk (ok := q_isA) (n := 0) (ck_at dt_sub 32 rfl) rfl rfl (fun _ => rfl) rfl rfl ?_
      refine z_ldk (ok := q_isI) (n := 4) (ck_at dt_sub 33 rfl) rfl rfl (fun _ => rfl) rfl rfl ?_
      refine z_op (ck_at dt_sub 34 rfl) rfl (o_sipush _ (by decide)) ?_
      refine z_op (ck_at dt_sub 35 rfl) rfl (o_irem ⟨by decide, by decide⟩ (by decide)) ?_
      refine z_putI (j := 68) hm (ck_at dt_sub 36 rfl) own_sub (mf_at 70 rfl) (by decide) rfl rfl rfl ?_
      refine z_ldk (ok := q_isA) (n := 0) (ck_at dt_sub 37 rfl) rfl rfl (fun _ => rfl) rfl rfl ?_
      refine z_ldk (ok := q_isI) (n := 4) (ck_at dt_sub 38 rfl) rfl rfl (fun _ => rfl) rfl rfl ?_
      refine z_op (ck_at dt_sub 39 rfl) rfl (o_sipush _ (by decide)) ?_
      refine z_op (ck_at dt_sub 40 rfl) rfl (o_idiv ⟨by decide, by decide⟩ (by decide)) ?_
      refine z_putI (j := 69) hm (ck_at dt_sub 41 rfl) own_sub (mf_at 71 rfl) (by decide) rfl rfl rfl ?_
      refine z_op (ck_at dt_sub 42 rfl) rfl (o_const _) ?_
      refine z_st1 (ok := q_isI) (n := 5) (L' := [some (.ref m), none, none, some (iv x3), some (iv (B 65 ((B 66 0) - 1))), some (iv 0)]) (ck_at dt_sub 43 rfl) rfl (fun _ => rfl) (fun _ _ => rfl) rfl nl_sub (by decide) rfl rfl ?_
      exact z_wk w ⟨rfl, ⟨rfl, ⟨rfl, trivial⟩⟩⟩
    · intro q; have w := w.2 q
      refine z_ldk (ok := q_isA) (n := 0) (ck_at dt_sub 28 rfl) rfl rfl (fun _ => rfl) rfl rfl ?_
      refine z_ldk (ok := q_isI) (n := 4) (ck_at dt_sub 29 rfl) rfl rfl (fun _ => rfl) rfl rfl ?_
      refine z_virt (k' := k_restored) (n := 3) (as := [iv (B 65 ((B 66 0) - 1))]) (r := []) (ck_at dt_sub 30 rfl) own_sub (mm_at 39 rfl) vk_restored rfl nl_restored rfl rfl rfl rfl ?_
      exact w.mono (Nat.le_refl _) (fun o B' ⟨ho, w⟩ => ⟨none, ho, z_wk (r_sub_56_ok hm w) ⟨rfl, ⟨rfl, trivial⟩⟩⟩)
def r_sub_0 (m : Nat) (h0 : qH) (d : Nat) (x1 x2 : Int) (B : qB) (Q : qO → qB → Prop) : Prop := qZ m h0 d k_push 0 [some (.ref m), some (iv ((8192 * x2) + x1))] [] B (fun o B' => o = .inl none ∧ qZ m h0 (d + 1) k_sub 16 [some (.ref m), none, none, some (iv (B 66 0)), none, none] [] B' Q)
theorem r_sub_0_ok {m : Nat} {h0 : qH} {d : Nat} {x1 x2 : Int} {B : qB} {Q : qO → qB → Prop} (hm : m + 100 < 1000000000) (w : r_sub_0 m h0 d x1 x2 B Q) : qZ m h0 (d + 1) k_sub 0 [some (.ref m), some (iv x1), some (iv x2), none, none, none] [] B Q := by
  unfold r_sub_0 at w
  refine z_ldk (ok := q_isA) (n := 0) (ck_at dt_sub 0 rfl) rfl rfl (fun _ => rfl) rfl rfl ?_
  refine z_getI (j := 66) (ck_at dt_sub 1 rfl) own_sub (mf_at 69 rfl) (by decide) rfl ?_
  refine z_st1 (ok := q_isI) (n := 3) (L' := [some (.ref m), some (iv x1), some (iv x2), some (iv (B 66 0)), none, none]) (ck_at dt_sub 2 rfl) rfl (fun _ => rfl) (fun _ _ => rfl) rfl nl_sub (by decide) rfl rfl ?_
  refine z_ldk (ok := q_isA) (n := 0) (ck_at dt_sub 3 rfl) rfl rfl (fun _ => rfl) rfl rfl ?_
  refine z_op (ck_at dt_sub 4 rfl) rfl (o_sipush _ (by decide)) ?_
  refine z_ldk (ok := q_isI) (n := 2) (ck_at dt_sub 5 rfl) rfl rfl (fun _ => rfl) rfl rfl ?_
  refine z_op (ck_at dt_sub 6 rfl) rfl o_imul ?_
  refine z_ldk (ok := q_isI) (n := 1) (ck_at dt_sub 7 rfl) rfl rfl (fun _ => rfl) rfl rfl ?_
  refine z_op (ck_at dt_sub 8 rfl) rfl o_iadd ?_
  refine z_virt (k' := k_push) (n := 0) (as := [iv ((8192 * x2) + x1)]) (r := []) (ck_at dt_sub 9 rfl) own_sub (mm_at 38 rfl) vk_push rfl nl_push rfl rfl rfl rfl ?_
  exact w.mono (Nat.le_refl _) (fun o B' ⟨ho, w⟩ => ⟨none, ho, z_wk w ⟨rfl, ⟨rfl, trivial⟩⟩⟩)
/-! go(I)I -/
def t_go : List (Nat × Instr × Nat) := [(0, .aload_n 0, 1), (1, .sipush 8192, 3), (4, .iload_n 1, 1), (5, .imul, 1), (6, .invokevirtual 321, 3), (9, .aload_n 0, 1), (10, .getfield 318, 3), (13, .ifCond .le 113, 3), (16, .aload_n 0, 1), (17, .dup, 1), (18, .getfield 318, 3), (21, .iconst 1, 1), (22, .isub, 1), (23, .putfield 318, 3), (26, .aload_n 0, 1), (27, .getfield 143, 3), (30, .aload_n 0, 1), (31, .getfield 318, 3), (34, .iaload, 1), (35, .istore_n 2, 1), (36, .iload_n 2, 1), (37, .ifCond .ge 11, 3), (40, .aload_n 0, 1), (41, .iload_n 2, 1), (42, .invokevirtual 351, 3), (45, .goto (-36), 3), (48, .aload_n 0, 1), (49, .iload_n 2, 1), (50, .sipush 8192, 3), (53, .irem, 1), (54, .putfield 333, 3), (57, .aload_n 0, 1), (58, .iload_n 2, 1), (59, .sipush 8192, 3), (62, .idiv, 1), (63, .putfield 336, 3), (66, .iconst 0, 1), (67, .istore_n 3, 1), (68, .iload_n 3, 1), (69, .ifCond .ne 21, 3), (72, .aload_n 0, 1), (73, .invokevirtual 354, 3), (76, .istore_n 3, 1), (77, .iload_n 3, 1), (78, .iconst 3, 1), (79, .if_icmp .ne (-11), 3), (82, .aload_n 0, 1), (83, .invokevirtual 357, 3), (86, .istore_n 3, 1), (87, .goto (-19), 3), (90, .iload_n 3, 1), (91, .iconst 2, 1), (92, .if_icmp .ne 31, 3), (95, .aload_n 0, 1), (96, .getfield 360, 3), (99, .ifCond .eq 14, 3), (102, .aload_n 0, 1), (103, .getfield 336, 3), (106, .aload_n 0, 1), (107, .getfield 324, 3), (110, .if_icmp .ne 13, 3), (113, .aload_n 0, 1), (114, .iconst 0, 1), (115, .putfield 318, 3), (118, .aload_n 0, 1), (119, .getfield 336, 3), (122, .ireturn, 1), (123, .goto (-114), 3), (126, .iconst (-1), 1), (127, .ireturn, 1)]
set_option maxRecDepth 100000 in
theorem dt_go : q_ck k_go t_go = true := by decide +kernel
def r_go_123 (m : Nat) (h0 : qH) (d : Nat) (B : qB) (Q : qO → qB → Prop) : Prop := qZ m h0 (d + 1) k_go 9 [some (.ref m), none, none, none] [] B Q
theorem r_go_123_ok {m : Nat} {h0 : qH} {d : Nat} {B : qB} {Q : qO → qB → Prop} (hm : m + 100 < 1000000000) (w : r_go_123 m h0 d B Q) : qZ m h0 (d + 1) k_go 123 [some (.ref m), none, none, none] [] B Q := by
  unfold r_go_123 at w
  refine z_goto (t := 9) (ck_at dt_go 67 rfl) rfl ?_
  exact z_wk w ⟨rfl, trivial⟩
def r_go_86 (m : Nat) (h0 : qH) (d : Nat) (s0 : Int) (B : qB) (Q : qO → qB → Prop) : Prop := qZ m h0 (d + 1) k_go 68 [some (.ref m), none, none, some (iv s0)] [] B Q
theorem r_go_86_ok {m : Nat} {h0 : qH} {d : Nat} {s0 : Int} {B : qB} {Q : qO → qB → Prop} (hm : m + 100 < 1000000000) (w : r_go_86 m h0 d s0 B Q) : qZ m h0 (d + 1) k_go 86 [some (.ref m), none, none, none] [iv s0] B Q := by
  unfold r_go_86 at w
  refine z_st1 (ok := q_isI) (n := 3) (L' := [some (.ref m), none, none, some (iv s0)]) (ck_at dt_go 48 rfl) rfl (fun _ => rfl) (fun _ _ => rfl) rfl nl_go (by decide) trivial rfl ?_
  refine z_goto (t := 68) (ck_at dt_go 49 rfl) rfl ?_
  exact z_wk w ⟨rfl, ⟨rfl, trivial⟩⟩
def r_go_76 (m : Nat) (h0 : qH) (d : Nat) (s0 : Int) (B : qB) (Q : qO → qB → Prop) : Prop := R32 s0 ∧ (¬ s0 = 3 → qZ m h0 (d + 1) k_go 68 [some (.ref m), none, none, some (iv s0)] [] B Q) ∧ (s0 = 3 → qZ m h0 d k_asked 0 [some (.ref m), none, none, none, none] [] B (fun o B' => ∃ v : Int, o = .inl (some (iv v)) ∧ r_go_86 m h0 d v B' Q))
theorem r_go_76_ok {m : Nat} {h0 : qH} {d : Nat} {s0 : Int} {B : qB} {Q : qO → qB → Prop} (hm : m + 100 < 1000000000) (w : r_go_76 m h0 d s0 B Q) : qZ m h0 (d + 1) k_go 76 [some (.ref m), none, none, none] [iv s0] B Q := by
  unfold r_go_76 at w
  obtain ⟨p1, w⟩ := w
  refine z_st1 (ok := q_isI) (n := 3) (L' := [some (.ref m), none, none, some (iv s0)]) (ck_at dt_go 42 rfl) rfl (fun _ => rfl) (fun _ _ => rfl) rfl nl_go (by decide) trivial rfl ?_
  refine z_ldk (ok := q_isI) (n := 3) (ck_at dt_go 43 rfl) rfl rfl (fun _ => rfl) rfl rfl ?_
  refine z_op (ck_at dt_go 44 rfl) rfl (o_const _) ?_
  refine z_icmp (t := 68) (ck_at dt_go 45 rfl) rfl p1 ⟨by decide, by decide⟩ ?_ ?_
  · intro q; have w := w.1 q
    exact z_wk w ⟨rfl, ⟨rfl, trivial⟩⟩
  · intro q; have w := w.2 q
    refine z_ldk (ok := q_isA) (n := 0) (ck_at dt_go 46 rfl) rfl rfl (fun _ => rfl) rfl rfl ?_
    refine z_virt (k' := k_asked) (n := 4) (as := []) (r := []) (ck_at dt_go 47 rfl) own_go (mm_at 41 rfl) vk_asked rfl nl_asked rfl rfl rfl rfl ?_
    exact w.mono (Nat.le_refl _) (fun o B' ⟨v, ho, w⟩ => ⟨some (iv v), ho, z_wk (r_go_86_ok hm w) ⟨rfl, trivial⟩⟩)
def r_go_68 (m : Nat) (h0 : qH) (d : Nat) (x3 : Int) (B : qB) (Q : qO → qB → Prop) : Prop := R32 x3 ∧ (¬ x3 = 0 → (¬ x3 = 2 → r_go_123 m h0 d B Q) ∧ (x3 = 2 → R32 (B 59 0) ∧ (B 59 0 = 0 → Q (.inl (some (iv (B 69 0)))) (u2 B 66 0 0)) ∧ (¬ B 59 0 = 0 → R32 (B 69 0) ∧ R32 (B 57 0) ∧ (¬ B 69 0 = B 57 0 → r_go_123 m h0 d B Q) ∧ (B 69 0 = B 57 0 → Q (.inl (some (iv (B 69 0)))) (u2 B 66 0 0))))) ∧ (x3 = 0 → qZ m h0 d k_one 0 [some (.ref m), none, none] [] B (fun o B' => ∃ v : Int, o = .inl (some (iv v)) ∧ r_go_76 m h0 d v B' Q))
theorem r_go_68_ok {m : Nat} {h0 : qH} {d : Nat} {x3 : Int} {B : qB} {Q : qO → qB → Prop} (hm : m + 100 < 1000000000) (w : r_go_68 m h0 d x3 B Q) : qZ m h0 (d + 1) k_go 68 [some (.ref m), none, none, some (iv x3)] [] B Q := by
  unfold r_go_68 at w
  obtain ⟨p1, w⟩ := w
  refine z_ldk (ok := q_isI) (n := 3) (ck_at dt_go 38 rfl) rfl rfl (fun _ => rfl) rfl rfl ?_
  refine z_ifz (t := 90) (ck_at dt_go 39 rfl) rfl p1 ?_ ?_
  · intro q; have w := w.1 q
    refine z_ldk (ok := q_isI) (n := 3) (ck_at dt_go 50 rfl) rfl rfl (fun _ => rfl) rfl rfl ?_
    refine z_op (ck_at dt_go 51 rfl) rfl (o_const _) ?_
    refine z_icmp (t := 123) (ck_at dt_go 52 rfl) rfl p1 ⟨by decide, by decide⟩ ?_ ?_
    · intro q; have w := w.1 q
      exact z_wk (r_go_123_ok hm w) ⟨rfl, trivial⟩
    · intro q; have w := w.2 q
      obtain ⟨p2, w⟩ := w
      refine z_ldk (ok := q_isA) (n := 0) (ck_at dt_go 53 rfl) rfl rfl (fun _ => rfl) rfl rfl ?_
      refine z_getI (j := 59) (ck_at dt_go 54 rfl) own_go (mf_at 59 rfl) (by decide) rfl ?_
      refine z_ifz (t := 113) (ck_at dt_go 55 rfl) rfl p2 ?_ ?_
      · intro q; have w := w.1 q
        refine z_ldk (ok := q_isA) (n := 0) (ck_at dt_go 61 rfl) rfl rfl (fun _ => rfl) rfl rfl ?_
        refine z_op (ck_at dt_go 62 rfl) rfl (o_const _) ?_
        refine z_putI (j := 66) hm (ck_at dt_go 63 rfl) own_go (mf_at 69 rfl) (by decide) rfl rfl rfl ?_
        refine z_ldk (ok := q_isA) (n := 0) (ck_at dt_go 64 rfl) rfl rfl (fun _ => rfl) rfl rfl ?_
        refine z_getI (j := 69) (ck_at dt_go 65 rfl) own_go (mf_at 71 rfl) (by decide) rfl ?_
        exact z_retI (ck_at dt_go 66 rfl) rt_go w
      · intro q; have w := w.2 q
        obtain ⟨p3, p4, w⟩ := w
        refine z_ldk (ok := q_isA) (n := 0) (ck_at dt_go 56 rfl) rfl rfl (fun _ => rfl) rfl rfl ?_
        refine z_getI (j := 69) (ck_at dt_go 57 rfl) own_go (mf_at 71 rfl) (by decide) rfl ?_
        refine z_ldk (ok := q_isA) (n := 0) (ck_at dt_go 58 rfl) rfl rfl (fun _ => rfl) rfl rfl ?_
        refine z_getI (j := 57) (ck_at dt_go 59 rfl) own_go (mf_at 66 rfl) (by decide) rfl ?_
        refine z_icmp (t := 123) (ck_at dt_go 60 rfl) rfl p3 p4 ?_ ?_
        · intro q; have w := w.1 q
          exact z_wk (r_go_123_ok hm w) ⟨rfl, trivial⟩
        · intro q; have w := w.2 q
          refine z_ldk (ok := q_isA) (n := 0) (ck_at dt_go 61 rfl) rfl rfl (fun _ => rfl) rfl rfl ?_
          refine z_op (ck_at dt_go 62 rfl) rfl (o_const _) ?_
          refine z_putI (j := 66) hm (ck_at dt_go 63 rfl) own_go (mf_at 69 rfl) (by decide) rfl rfl rfl ?_
          refine z_ldk (ok := q_isA) (n := 0) (ck_at dt_go 64 rfl) rfl rfl (fun _ => rfl) rfl rfl ?_
          refine z_getI (j := 69) (ck_at dt_go 65 rfl) own_go (mf_at 71 rfl) (by decide) rfl ?_
          exact z_retI (ck_at dt_go 66 rfl) rt_go w
  · intro q; have w := w.2 q
    refine z_ldk (ok := q_isA) (n := 0) (ck_at dt_go 40 rfl) rfl rfl (fun _ => rfl) rfl rfl ?_
    refine z_virt (k' := k_one) (n := 2) (as := []) (r := []) (ck_at dt_go 41 rfl) own_go (mm_at 40 rfl) vk_one rfl nl_one rfl rfl rfl rfl ?_
    exact w.mono (Nat.le_refl _) (fun o B' ⟨v, ho, w⟩ => ⟨some (iv v), ho, z_wk (r_go_76_ok hm w) ⟨rfl, trivial⟩⟩)
def r_go_45 (m : Nat) (h0 : qH) (d : Nat) (B : qB) (Q : qO → qB → Prop) : Prop := qZ m h0 (d + 1) k_go 9 [some (.ref m), none, none, none] [] B Q
theorem r_go_45_ok {m : Nat} {h0 : qH} {d : Nat} {B : qB} {Q : qO → qB → Prop} (hm : m + 100 < 1000000000) (w : r_go_45 m h0 d B Q) : qZ m h0 (d + 1) k_go 45 [some (.ref m), none, none, none] [] B Q := by
  unfold r_go_45 at w
  refine z_goto (t := 9) (ck_at dt_go 25 rfl) rfl ?_
  exact z_wk w ⟨rfl, trivial⟩
def r_go_9 (m : Nat) (h0 : qH) (d : Nat) (B : qB) (Q : qO → qB → Prop) : Prop := R32 (B 66 0) ∧ (B 66 0 ≤ 0 → Q (.inl (some (iv (-1)))) B) ∧ (B 66 0 > 0 → 0 ≤ (B 66 0) - 1 ∧ (B 66 0) - 1 < 2500000 ∧ R32 (B 65 ((B 66 0) - 1)) ∧ (B 65 ((B 66 0) - 1) ≥ 0 → qZ m h0 (d + 1) k_go 68 [some (.ref m), none, none, some (iv 0)] [] (u2 (u2 (u2 B 66 0 ((B 66 0) - 1)) 68 0 (iRem (B 65 ((B 66 0) - 1)) 8192)) 69 0 (iDiv (B 65 ((B 66 0) - 1)) 8192)) Q) ∧ (B 65 ((B 66 0) - 1) < 0 → qZ m h0 d k_restored 0 [some (.ref m), some (iv (B 65 ((B 66 0) - 1))), none, none, none] [] (u2 B 66 0 ((B 66 0) - 1)) (fun o B' => o = .inl none ∧ r_go_45 m h0 d B' Q)))
theorem r_go_9_ok {m : Nat} {h0 : qH} {d : Nat} {B : qB} {Q : qO → qB → Prop} (hm : m + 100 < 1000000000) (w : r_go_9 m h0 d B Q) : qZ m h0 (d + 1) k_go 9 [some (.ref m), none, none, none] [] B Q := by
  unfold r_go_9 at w
  obtain ⟨p1, w⟩ := w
  refine z_ldk (ok := q_isA) (n := 0) (ck_at dt_go 5 rfl) rfl rfl (fun _ => rfl) rfl rfl ?_
  refine z_getI (j := 66) (ck_at dt_go 6 rfl) own_go (mf_at 69 rfl) (by decide) rfl ?_
  refine z_ifz (t := 126) (ck_at dt_go 7 rfl) rfl p1 ?_ ?_
  · intro q; have w := w.1 q
    refine z_op (ck_at dt_go 68 rfl) rfl (o_const _) ?_
    exact z_retI (ck_at dt_go 69 rfl) rt_go w
  · intro q; have w := w.2 q
    obtain ⟨p2, p3, p4, w⟩ := w
    refine z_ldk (ok := q_isA) (n := 0) (ck_at dt_go 8 rfl) rfl rfl (fun _ => rfl) rfl rfl ?_
    refine z_op (ck_at dt_go 9 rfl) rfl rfl ?_
    refine z_getI (j := 66) (ck_at dt_go 10 rfl) own_go (mf_at 69 rfl) (by decide) rfl ?_
    refine z_op (ck_at dt_go 11 rfl) rfl (o_const _) ?_
    refine z_op (ck_at dt_go 12 rfl) rfl o_isub ?_
    refine z_putI (j := 66) hm (ck_at dt_go 13 rfl) own_go (mf_at 69 rfl) (by decide) rfl rfl rfl ?_
    refine z_ldk (ok := q_isA) (n := 0) (ck_at dt_go 14 rfl) rfl rfl (fun _ => rfl) rfl rfl ?_
    refine z_getR (j := 65) (a := 42) (ck_at dt_go 15 rfl) own_go (mf_at 43 rfl) (by decide) rfl rfl ?_
    refine z_ldk (ok := q_isA) (n := 0) (ck_at dt_go 16 rfl) rfl rfl (fun _ => rfl) rfl rfl ?_
    refine z_getI (j := 66) (ck_at dt_go 17 rfl) own_go (mf_at 69 rfl) (by decide) rfl ?_
    refine z_iald (j := 65) (n := 2500000) (ck_at dt_go 18 rfl) rfl rfl rfl p2 p3 ?_
    refine z_st1 (ok := q_isI) (n := 2) (L' := [some (.ref m), none, some (iv (B 65 ((B 66 0) - 1))), none]) (ck_at dt_go 19 rfl) rfl (fun _ => rfl) (fun _ _ => rfl) rfl nl_go (by decide) trivial rfl ?_
    refine z_ldk (ok := q_isI) (n := 2) (ck_at dt_go 20 rfl) rfl rfl (fun _ => rfl) rfl rfl ?_
    refine z_ifz (t := 48) (ck_at dt_go 21 rfl) rfl p4 ?_ ?_
    · intro q; have w := w.1 q
      refine z_ldk (ok := q_isA) (n := 0) (ck_at dt_go 26 rfl) rfl rfl (fun _ => rfl) rfl rfl ?_
      refine z_ldk (ok := q_isI) (n := 2) (ck_at dt_go 27 rfl) rfl rfl (fun _ => rfl) rfl rfl ?_
      refine z_op (ck_at dt_go 28 rfl) rfl (o_sipush _ (by decide)) ?_
      refine z_op (ck_at dt_go 29 rfl) rfl (o_irem ⟨by decide, by decide⟩ (by decide)) ?_
      refine z_putI (j := 68) hm (ck_at dt_go 30 rfl) own_go (mf_at 70 rfl) (by decide) rfl rfl rfl ?_
      refine z_ldk (ok := q_isA) (n := 0) (ck_at dt_go 31 rfl) rfl rfl (fun _ => rfl) rfl rfl ?_
      refine z_ldk (ok := q_isI) (n := 2) (ck_at dt_go 32 rfl) rfl rfl (fun _ => rfl) rfl rfl ?_
      refine z_op (ck_at dt_go 33 rfl) rfl (o_sipush _ (by decide)) ?_
      refine z_op (ck_at dt_go 34 rfl) rfl (o_idiv ⟨by decide, by decide⟩ (by decide)) ?_
      refine z_putI (j := 69) hm (ck_at dt_go 35 rfl) own_go (mf_at 71 rfl) (by decide) rfl rfl rfl ?_
      refine z_op (ck_at dt_go 36 rfl) rfl (o_const _) ?_
      refine z_st1 (ok := q_isI) (n := 3) (L' := [some (.ref m), none, some (iv (B 65 ((B 66 0) - 1))), some (iv 0)]) (ck_at dt_go 37 rfl) rfl (fun _ => rfl) (fun _ _ => rfl) rfl nl_go (by decide) rfl rfl ?_
      exact z_wk w ⟨rfl, ⟨rfl, trivial⟩⟩
    · intro q; have w := w.2 q
      refine z_ldk (ok := q_isA) (n := 0) (ck_at dt_go 22 rfl) rfl rfl (fun _ => rfl) rfl rfl ?_
      refine z_ldk (ok := q_isI) (n := 2) (ck_at dt_go 23 rfl) rfl rfl (fun _ => rfl) rfl rfl ?_
      refine z_virt (k' := k_restored) (n := 3) (as := [iv (B 65 ((B 66 0) - 1))]) (r := []) (ck_at dt_go 24 rfl) own_go (mm_at 39 rfl) vk_restored rfl nl_restored rfl rfl rfl rfl ?_
      exact w.mono (Nat.le_refl _) (fun o B' ⟨ho, w⟩ => ⟨none, ho, z_wk (r_go_45_ok hm w) ⟨rfl, trivial⟩⟩)
def r_go_0 (m : Nat) (h0 : qH) (d : Nat) (x1 : Int) (B : qB) (Q : qO → qB → Prop) : Prop := qZ m h0 d k_push 0 [some (.ref m), some (iv (8192 * x1))] [] B (fun o B' => o = .inl none ∧ qZ m h0 (d + 1) k_go 9 [some (.ref m), none, none, none] [] B' Q)
theorem r_go_0_ok {m : Nat} {h0 : qH} {d : Nat} {x1 : Int} {B : qB} {Q : qO → qB → Prop} (hm : m + 100 < 1000000000) (w : r_go_0 m h0 d x1 B Q) : qZ m h0 (d + 1) k_go 0 [some (.ref m), some (iv x1), none, none] [] B Q := by
  unfold r_go_0 at w
  refine z_ldk (ok := q_isA) (n := 0) (ck_at dt_go 0 rfl) rfl rfl (fun _ => rfl) rfl rfl ?_
  refine z_op (ck_at dt_go 1 rfl) rfl (o_sipush _ (by decide)) ?_
  refine z_ldk (ok := q_isI) (n := 1) (ck_at dt_go 2 rfl) rfl rfl (fun _ => rfl) rfl rfl ?_
  refine z_op (ck_at dt_go 3 rfl) rfl o_imul ?_
  refine z_virt (k' := k_push) (n := 0) (as := [iv (8192 * x1)]) (r := []) (ck_at dt_go 4 rfl) own_go (mm_at 38 rfl) vk_push rfl nl_push rfl rfl rfl rfl ?_
  exact w.mono (Nat.le_refl _) (fun o B' ⟨ho, w⟩ => ⟨none, ho, z_wk w ⟨rfl, trivial⟩⟩)
/-! asked()I -/
def t_asked : List (Nat × Instr × Nat) := [(0, .aload_n 0, 1), (1, .getfield 333, 3), (4, .istore_n 1, 1), (5, .aload_n 0, 1), (6, .getfield 336, 3), (9, .istore_n 2, 1), (10, .iconst 0, 1), (11, .istore_n 3, 1), (12, .iload_n 3, 1), (13, .bipush 20, 2), (15, .if_icmp .ge 21, 3), (18, .aload_n 0, 1), (19, .getfield 150, 3), (22, .iload_n 3, 1), (23, .aload_n 0, 1), (24, .getfield 112, 3), (27, .iload_n 3, 1), (28, .iaload, 1), (29, .iastore, 1), (30, .iinc 3 1, 3), (33, .goto (-21), 3), (36, .aload_n 0, 1), (37, .aload_n 0, 1), (38, .getfield 127, 3), (41, .aload_n 0, 1), (42, .getfield 109, 3), (45, .iload_n 1, 1), (46, .iaload, 1), (47, .iconst 1, 1), (48, .iadd, 1), (49, .iaload, 1), (50, .aload_n 0, 1), (51, .getfield 127, 3), (54, .aload_n 0, 1), (55, .getfield 109, 3), (58, .aload_n 0, 1), (59, .getfield 106, 3), (62, .iload_n 1, 1), (63, .iaload, 1), (64, .iaload, 1), (65, .iaload, 1), (66, .invokevirtual 364, 3), (69, .aload_n 0, 1), (70, .iload_n 1, 1), (71, .iconst 1, 1), (72, .iadd, 1), (73, .iload_n 2, 1), (74, .invokevirtual 367, 3), (77, .istore_n 3, 1), (78, .iconst 0, 1), (79, .istore 4, 2), (81, .iload 4, 2), (83, .bipush 20, 2), (85, .if_icmp .ge 39, 3), (88, .aload_n 0, 1), (89, .getfield 112, 3), (92, .iload 4, 2), (94, .iaload, 1), (95, .aload_n 0, 1), (96, .getfield 150, 3), (99, .iload 4, 2), (101, .iaload, 1), (102, .if_icmp .eq 16, 3), (105, .aload_n 0, 1), (106, .iload 4, 2), (108, .aload_n 0, 1), (109, .getfield 150, 3), (112, .iload 4, 2), (114, .iaload, 1), (115, .invokevirtual 345, 3), (118, .iinc 4 1, 3), (121, .goto (-40), 3), (124, .aload_n 0, 1), (125, .getfield 103, 3), (128, .iload_n 1, 1), (129, .iaload, 1), (130, .iconst 2, 1), (131, .if_icmp .ne 10, 3), (134, .iload_n 3, 1), (135, .ifCond .lt 12, 3), (138, .goto 7, 3), (141, .iload_n 3, 1), (142, .ifCond .ge 5, 3), (145, .iconst 1, 1), (146, .ireturn, 1), (147, .aload_n 0, 1), (148, .aload_n 0, 1), (149, .getfield 103, 3), (152, .iload_n 1, 1), (153, .iaload, 1), (154, .ifCond .ne 7, 3), (157, .iload_n 3, 1), (158, .goto 4, 3), (161, .iload_n 2, 1), (162, .putfield 336, 3), (165, .aload_n 0, 1), (166, .aload_n 0, 1), (167, .getfield 106, 3), (170, .iload_n 1, 1), (171, .iaload, 1), (172, .putfield 333, 3), (175, .iconst 0, 1), (176, .ireturn, 1)]
set_option maxRecDepth 100000 in
theorem dt_asked : q_ck k_asked t_asked = true := by decide +kernel
def r_asked_162 (m : Nat) (h0 : qH) (d : Nat) (x1 s1 : Int) (B : qB) (Q : qO → qB → Prop) : Prop := 0 ≤ x1 ∧ x1 < 6000 ∧ Q (.inl (some (iv 0))) (u2 (u2 B 69 0 s1) 68 0 (B 44 x1))
theorem r_asked_162_ok {m : Nat} {h0 : qH} {d : Nat} {x1 s1 : Int} {B : qB} {Q : qO → qB → Prop} (hm : m + 100 < 1000000000) (w : r_asked_162 m h0 d x1 s1 B Q) : qZ m h0 (d + 1) k_asked 162 [some (.ref m), some (iv x1), none, none, none] [iv s1, .ref m] B Q := by
  unfold r_asked_162 at w
  obtain ⟨p1, p2, w⟩ := w
  refine z_putI (j := 69) hm (ck_at dt_asked 94 rfl) own_asked (mf_at 71 rfl) (by decide) rfl rfl rfl ?_
  refine z_ldk (ok := q_isA) (n := 0) (ck_at dt_asked 95 rfl) rfl rfl (fun _ => rfl) rfl rfl ?_
  refine z_ldk (ok := q_isA) (n := 0) (ck_at dt_asked 96 rfl) rfl rfl (fun _ => rfl) rfl rfl ?_
  refine z_getR (j := 44) (a := 30) (ck_at dt_asked 97 rfl) own_asked (mf_at 31 rfl) (by decide) rfl rfl ?_
  refine z_ldk (ok := q_isI) (n := 1) (ck_at dt_asked 98 rfl) rfl rfl (fun _ => rfl) rfl rfl ?_
  refine z_iald (j := 44) (n := 6000) (ck_at dt_asked 99 rfl) rfl rfl rfl p1 p2 ?_
  refine z_putI (j := 68) hm (ck_at dt_asked 100 rfl) own_asked (mf_at 70 rfl) (by decide) rfl rfl rfl ?_
  refine z_op (ck_at dt_asked 101 rfl) rfl (o_const _) ?_
  exact z_retI (ck_at dt_asked 102 rfl) rt_asked w
def r_asked_147 (m : Nat) (h0 : qH) (d : Nat) (x1 x2 x3 : Int) (B : qB) (Q : qO → qB → Prop) : Prop := 0 ≤ x1 ∧ x1 < 6000 ∧ R32 (B 43 x1) ∧ (¬ B 43 x1 = 0 → r_asked_162 m h0 d x1 x2 B Q) ∧ (B 43 x1 = 0 → r_asked_162 m h0 d x1 x3 B Q)
theorem r_asked_147_ok {m : Nat} {h0 : qH} {d : Nat} {x1 x2 x3 : Int} {B : qB} {Q : qO → qB → Prop} (hm : m + 100 < 1000000000) (w : r_asked_147 m h0 d x1 x2 x3 B Q) : qZ m h0 (d + 1) k_asked 147 [some (.ref m), some (iv x1), some (iv x2), some (iv x3), none] [] B Q := by
  unfold r_asked_147 at w
  obtain ⟨p1, p2, p3, w⟩ := w
  refine z_ldk (ok := q_isA) (n := 0) (ck_at dt_asked 85 rfl) rfl rfl (fun _ => rfl) rfl rfl ?_
  refine z_ldk (ok := q_isA) (n := 0) (ck_at dt_asked 86 rfl) rfl rfl (fun _ => rfl) rfl rfl ?_
  refine z_getR (j := 43) (a := 29) (ck_at dt_asked 87 rfl) own_asked (mf_at 30 rfl) (by decide) rfl rfl ?_
  refine z_ldk (ok := q_isI) (n := 1) (ck_at dt_asked 88 rfl) rfl rfl (fun _ => rfl) rfl rfl ?_
  refine z_iald (j := 43) (n := 6000) (ck_at dt_asked 89 rfl) rfl rfl rfl p1 p2 ?_
  refine z_ifz (t := 161) (ck_at dt_asked 90 rfl) rfl p3 ?_ ?_
  · intro q; have w := w.1 q
    refine z_ldk (ok := q_isI) (n := 2) (ck_at dt_asked 93 rfl) rfl rfl (fun _ => rfl) rfl rfl ?_
    exact z_wk (r_asked_162_ok hm w) ⟨rfl, ⟨rfl, trivial⟩⟩
  · intro q; have w := w.2 q
    refine z_ldk (ok := q_isI) (n := 3) (ck_at dt_asked 91 rfl) rfl rfl (fun _ => rfl) rfl rfl ?_
    refine z_goto (t := 162) (ck_at dt_asked 92 rfl) rfl ?_
    exact z_wk (r_asked_162_ok hm w) ⟨rfl, ⟨rfl, trivial⟩⟩
def r_asked_118 (m : Nat) (h0 : qH) (d : Nat) (x1 x2 x3 x4 : Int) (B : qB) (Q : qO → qB → Prop) : Prop := qZ m h0 (d + 1) k_asked 81 [some (.ref m), some (iv x1), some (iv x2), some (iv x3), some (iv (x4 + 1))] [] B Q
theorem r_asked_118_ok {m : Nat} {h0 : qH} {d : Nat} {x1 x2 x3 x4 : Int} {B : qB} {Q : qO → qB → Prop} (hm : m + 100 < 1000000000) (w : r_asked_118 m h0 d x1 x2 x3 x4 B Q) : qZ m h0 (d + 1) k_asked 118 [some (.ref m), some (iv x1), some (iv x2), some (iv x3), some (iv x4)] [] B Q := by
  unfold r_asked_118 at w
  refine z_iinc (n := 4) (L' := [some (.ref m), some (iv x1), some (iv x2), some (iv x3), some (iv (x4 + 1))]) (ck_at dt_asked 70 rfl) rfl nl_asked (by decide) rfl rfl ?_
  refine z_goto (t := 81) (ck_at dt_asked 71 rfl) rfl ?_
  exact z_wk w ⟨rfl, ⟨rfl, ⟨rfl, ⟨rfl, ⟨rfl, trivial⟩⟩⟩⟩⟩
def r_asked_81 (m : Nat) (h0 : qH) (d : Nat) (x1 x2 x3 x4 : Int) (B : qB) (Q : qO → qB → Prop) : Prop := R32 x4 ∧ (x4 ≥ 20 → 0 ≤ x1 ∧ x1 < 6000 ∧ R32 (B 43 x1) ∧ (¬ B 43 x1 = 2 → R32 x3 ∧ (x3 ≥ 0 → r_asked_147 m h0 d x1 x2 x3 B Q) ∧ (x3 < 0 → Q (.inl (some (iv 1))) B)) ∧ (B 43 x1 = 2 → R32 x3 ∧ (x3 < 0 → r_asked_147 m h0 d x1 x2 x3 B Q) ∧ (x3 ≥ 0 → Q (.inl (some (iv 1))) B))) ∧ (x4 < 20 → 0 ≤ x4 ∧ x4 < 20 ∧ R32 (B 49 x4) ∧ R32 (B 70 x4) ∧ (B 49 x4 = B 70 x4 → r_asked_118 m h0 d x1 x2 x3 x4 B Q) ∧ (¬ B 49 x4 = B 70 x4 → qZ m h0 d k_before 0 [some (.ref m), some (iv x4), some (iv (B 70 x4))] [] B (fun o B' => o = .inl none ∧ r_asked_118 m h0 d x1 x2 x3 x4 B' Q)))
theorem r_asked_81_ok {m : Nat} {h0 : qH} {d : Nat} {x1 x2 x3 x4 : Int} {B : qB} {Q : qO → qB → Prop} (hm : m + 100 < 1000000000) (w : r_asked_81 m h0 d x1 x2 x3 x4 B Q) : qZ m h0 (d + 1) k_asked 81 [some (.ref m), some (iv x1), some (iv x2), some (iv x3), some (iv x4)] [] B Q := by
  unfold r_asked_81 at w
  obtain ⟨p1, w⟩ := w
  refine z_ldk (ok := q_isI) (n := 4) (ck_at dt_asked 51 rfl) rfl rfl (fun _ => rfl) rfl rfl ?_
  refine z_op (ck_at dt_asked 52 rfl) rfl (o_bipush _ (by decide)) ?_
  refine z_icmp (t := 124) (ck_at dt_asked 53 rfl) rfl p1 ⟨by decide, by decide⟩ ?_ ?_
  · intro q; have w := w.1 q
    obtain ⟨p2, p3, p4, w⟩ := w
    refine z_ldk (ok := q_isA) (n := 0) (ck_at dt_asked 72 rfl) rfl rfl (fun _ => rfl) rfl rfl ?_
    refine z_getR (j := 43) (a := 29) (ck_at dt_asked 73 rfl) own_asked (mf_at 30 rfl) (by decide) rfl rfl ?_
    refine z_ldk (ok := q_isI) (n := 1) (ck_at dt_asked 74 rfl) rfl rfl (fun _ => rfl) rfl rfl ?_
    refine z_iald (j := 43) (n := 6000) (ck_at dt_asked 75 rfl) rfl rfl rfl p2 p3 ?_
    refine z_op (ck_at dt_asked 76 rfl) rfl (o_const _) ?_
    refine z_icmp (t := 141) (ck_at dt_asked 77 rfl) rfl p4 ⟨by decide, by decide⟩ ?_ ?_
    · intro q; have w := w.1 q
      obtain ⟨p5, w⟩ := w
      refine z_ldk (ok := q_isI) (n := 3) (ck_at dt_asked 81 rfl) rfl rfl (fun _ => rfl) rfl rfl ?_
      refine z_ifz (t := 147) (ck_at dt_asked 82 rfl) rfl p5 ?_ ?_
      · intro q; have w := w.1 q
        exact z_wk (r_asked_147_ok hm w) ⟨rfl, ⟨rfl, ⟨rfl, ⟨rfl, trivial⟩⟩⟩⟩
      · intro q; have w := w.2 q
        refine z_op (ck_at dt_asked 83 rfl) rfl (o_const _) ?_
        exact z_retI (ck_at dt_asked 84 rfl) rt_asked w
    · intro q; have w := w.2 q
      obtain ⟨p6, w⟩ := w
      refine z_ldk (ok := q_isI) (n := 3) (ck_at dt_asked 78 rfl) rfl rfl (fun _ => rfl) rfl rfl ?_
      refine z_ifz (t := 147) (ck_at dt_asked 79 rfl) rfl p6 ?_ ?_
      · intro q; have w := w.1 q
        exact z_wk (r_asked_147_ok hm w) ⟨rfl, ⟨rfl, ⟨rfl, ⟨rfl, trivial⟩⟩⟩⟩
      · intro q; have w := w.2 q
        refine z_goto (t := 145) (ck_at dt_asked 80 rfl) rfl ?_
        refine z_op (ck_at dt_asked 83 rfl) rfl (o_const _) ?_
        exact z_retI (ck_at dt_asked 84 rfl) rt_asked w
  · intro q; have w := w.2 q
    obtain ⟨p7, p8, p9, p10, w⟩ := w
    refine z_ldk (ok := q_isA) (n := 0) (ck_at dt_asked 54 rfl) rfl rfl (fun _ => rfl) rfl rfl ?_
    refine z_getR (j := 49) (a := 32) (ck_at dt_asked 55 rfl) own_asked (mf_at 33 rfl) (by decide) rfl rfl ?_
    refine z_ldk (ok := q_isI) (n := 4) (ck_at dt_asked 56 rfl) rfl rfl (fun _ => rfl) rfl rfl ?_
    refine z_iald (j := 49) (n := 20) (ck_at dt_asked 57 rfl) rfl rfl rfl p7 p8 ?_
    refine z_ldk (ok := q_isA) (n := 0) (ck_at dt_asked 58 rfl) rfl rfl (fun _ => rfl) rfl rfl ?_
    refine z_getR (j := 70) (a := 44) (ck_at dt_asked 59 rfl) own_asked (mf_at 45 rfl) (by decide) rfl rfl ?_
    refine z_ldk (ok := q_isI) (n := 4) (ck_at dt_asked 60 rfl) rfl rfl (fun _ => rfl) rfl rfl ?_
    refine z_iald (j := 70) (n := 20) (ck_at dt_asked 61 rfl) rfl rfl rfl p7 p8 ?_
    refine z_icmp (t := 118) (ck_at dt_asked 62 rfl) rfl p9 p10 ?_ ?_
    · intro q; have w := w.1 q
      exact z_wk (r_asked_118_ok hm w) ⟨rfl, ⟨rfl, ⟨rfl, ⟨rfl, ⟨rfl, trivial⟩⟩⟩⟩⟩
    · intro q; have w := w.2 q
      refine z_ldk (ok := q_isA) (n := 0) (ck_at dt_asked 63 rfl) rfl rfl (fun _ => rfl) rfl rfl ?_
      refine z_ldk (ok := q_isI) (n := 4) (ck_at dt_asked 64 rfl) rfl rfl (fun _ => rfl) rfl rfl ?_
      refine z_ldk (ok := q_isA) (n := 0) (ck_at dt_asked 65 rfl) rfl rfl (fun _ => rfl) rfl rfl ?_
      refine z_getR (j := 70) (a := 44) (ck_at dt_asked 66 rfl) own_asked (mf_at 45 rfl) (by decide) rfl rfl ?_
      refine z_ldk (ok := q_isI) (n := 4) (ck_at dt_asked 67 rfl) rfl rfl (fun _ => rfl) rfl rfl ?_
      refine z_iald (j := 70) (n := 20) (ck_at dt_asked 68 rfl) rfl rfl rfl p7 p8 ?_
      refine z_virt (k' := k_before) (n := 0) (as := [iv x4, iv (B 70 x4)]) (r := []) (ck_at dt_asked 69 rfl) own_asked (mm_at 45 rfl) vk_before rfl nl_before rfl rfl rfl rfl ?_
      exact w.mono (Nat.le_refl _) (fun o B' ⟨ho, w⟩ => ⟨none, ho, z_wk (r_asked_118_ok hm w) ⟨rfl, ⟨rfl, ⟨rfl, ⟨rfl, ⟨rfl, trivial⟩⟩⟩⟩⟩⟩)
def r_asked_77 (m : Nat) (h0 : qH) (d : Nat) (x1 x2 s0 : Int) (B : qB) (Q : qO → qB → Prop) : Prop := qZ m h0 (d + 1) k_asked 81 [some (.ref m), some (iv x1), some (iv x2), some (iv s0), some (iv 0)] [] B Q
theorem r_asked_77_ok {m : Nat} {h0 : qH} {d : Nat} {x1 x2 s0 : Int} {B : qB} {Q : qO → qB → Prop} (hm : m + 100 < 1000000000) (w : r_asked_77 m h0 d x1 x2 s0 B Q) : qZ m h0 (d + 1) k_asked 77 [some (.ref m), some (iv x1), some (iv x2), none, none] [iv s0] B Q := by
  unfold r_asked_77 at w
  refine z_st1 (ok := q_isI) (n := 3) (L' := [some (.ref m), some (iv x1), some (iv x2), some (iv s0), none]) (ck_at dt_asked 48 rfl) rfl (fun _ => rfl) (fun _ _ => rfl) rfl nl_asked (by decide) rfl rfl ?_
  refine z_op (ck_at dt_asked 49 rfl) rfl (o_const _) ?_
  refine z_st1 (ok := q_isI) (n := 4) (L' := [some (.ref m), some (iv x1), some (iv x2), some (iv s0), some (iv 0)]) (ck_at dt_asked 50 rfl) rfl (fun _ => rfl) (fun _ _ => rfl) rfl nl_asked (by decide) rfl rfl ?_
  exact z_wk w ⟨rfl, ⟨rfl, ⟨rfl, ⟨rfl, ⟨rfl, trivial⟩⟩⟩⟩⟩
def r_asked_69 (m : Nat) (h0 : qH) (d : Nat) (x1 x2 : Int) (B : qB) (Q : qO → qB → Prop) : Prop := qZ m h0 d k_sub 0 [some (.ref m), some (iv (x1 + 1)), some (iv x2), none, none, none] [] B (fun o B' => ∃ v : Int, o = .inl (some (iv v)) ∧ r_asked_77 m h0 d x1 x2 v B' Q)
theorem r_asked_69_ok {m : Nat} {h0 : qH} {d : Nat} {x1 x2 : Int} {B : qB} {Q : qO → qB → Prop} (hm : m + 100 < 1000000000) (w : r_asked_69 m h0 d x1 x2 B Q) : qZ m h0 (d + 1) k_asked 69 [some (.ref m), some (iv x1), some (iv x2), none, none] [] B Q := by
  unfold r_asked_69 at w
  refine z_ldk (ok := q_isA) (n := 0) (ck_at dt_asked 42 rfl) rfl rfl (fun _ => rfl) rfl rfl ?_
  refine z_ldk (ok := q_isI) (n := 1) (ck_at dt_asked 43 rfl) rfl rfl (fun _ => rfl) rfl rfl ?_
  refine z_op (ck_at dt_asked 44 rfl) rfl (o_const _) ?_
  refine z_op (ck_at dt_asked 45 rfl) rfl o_iadd ?_
  refine z_ldk (ok := q_isI) (n := 2) (ck_at dt_asked 46 rfl) rfl rfl (fun _ => rfl) rfl rfl ?_
  refine z_virt (k' := k_sub) (n := 3) (as := [iv (x1 + 1), iv x2]) (r := []) (ck_at dt_asked 47 rfl) own_asked (mm_at 47 rfl) vk_sub rfl nl_sub rfl rfl rfl rfl ?_
  exact w.mono (Nat.le_refl _) (fun o B' ⟨v, ho, w⟩ => ⟨some (iv v), ho, z_wk (r_asked_77_ok hm w) ⟨rfl, ⟨rfl, ⟨rfl, trivial⟩⟩⟩⟩)
def r_asked_12 (m : Nat) (h0 : qH) (d : Nat) (x1 x2 x3 : Int) (B : qB) (Q : qO → qB → Prop) : Prop := R32 x3 ∧ (x3 ≥ 20 → 0 ≤ x1 ∧ x1 < 6000 ∧ 0 ≤ (B 45 x1) + 1 ∧ (B 45 x1) + 1 < 2001 ∧ 0 ≤ B 44 x1 ∧ B 44 x1 < 6000 ∧ 0 ≤ B 45 (B 44 x1) ∧ B 45 (B 44 x1) < 2001 ∧ qZ m h0 d k_clearNotes 0 [some (.ref m), some (iv (B 54 ((B 45 x1) + 1))), some (iv (B 54 (B 45 (B 44 x1)))), none, none] [] B (fun o B' => o = .inl none ∧ r_asked_69 m h0 d x1 x2 B' Q)) ∧ (x3 < 20 → 0 ≤ x3 ∧ x3 < 20 ∧ qZ m h0 (d + 1) k_asked 12 [some (.ref m), some (iv x1), some (iv x2), some (iv (x3 + 1)), none] [] (u2 B 70 x3 (B 49 x3)) Q)
theorem r_asked_12_ok {m : Nat} {h0 : qH} {d : Nat} {x1 x2 x3 : Int} {B : qB} {Q : qO → qB → Prop} (hm : m + 100 < 1000000000) (w : r_asked_12 m h0 d x1 x2 x3 B Q) : qZ m h0 (d + 1) k_asked 12 [some (.ref m), some (iv x1), some (iv x2), some (iv x3), none] [] B Q := by
  unfold r_asked_12 at w
  obtain ⟨p1, w⟩ := w
  refine z_ldk (ok := q_isI) (n := 3) (ck_at dt_asked 8 rfl) rfl rfl (fun _ => rfl) rfl rfl ?_
  refine z_op (ck_at dt_asked 9 rfl) rfl (o_bipush _ (by decide)) ?_
  refine z_icmp (t := 36) (ck_at dt_asked 10 rfl) rfl p1 ⟨by decide, by decide⟩ ?_ ?_
  · intro q; have w := w.1 q
    obtain ⟨p2, p3, p4, p5, p6, p7, p8, p9, w⟩ := w
    refine z_ldk (ok := q_isA) (n := 0) (ck_at dt_asked 21 rfl) rfl rfl (fun _ => rfl) rfl rfl ?_
    refine z_ldk (ok := q_isA) (n := 0) (ck_at dt_asked 22 rfl) rfl rfl (fun _ => rfl) rfl rfl ?_
    refine z_getR (j := 54) (a := 37) (ck_at dt_asked 23 rfl) own_asked (mf_at 38 rfl) (by decide) rfl rfl ?_
    refine z_ldk (ok := q_isA) (n := 0) (ck_at dt_asked 24 rfl) rfl rfl (fun _ => rfl) rfl rfl ?_
    refine z_getR (j := 45) (a := 31) (ck_at dt_asked 25 rfl) own_asked (mf_at 32 rfl) (by decide) rfl rfl ?_
    refine z_ldk (ok := q_isI) (n := 1) (ck_at dt_asked 26 rfl) rfl rfl (fun _ => rfl) rfl rfl ?_
    refine z_iald (j := 45) (n := 6000) (ck_at dt_asked 27 rfl) rfl rfl rfl p2 p3 ?_
    refine z_op (ck_at dt_asked 28 rfl) rfl (o_const _) ?_
    refine z_op (ck_at dt_asked 29 rfl) rfl o_iadd ?_
    refine z_iald (j := 54) (n := 2001) (ck_at dt_asked 30 rfl) rfl rfl rfl p4 p5 ?_
    refine z_ldk (ok := q_isA) (n := 0) (ck_at dt_asked 31 rfl) rfl rfl (fun _ => rfl) rfl rfl ?_
    refine z_getR (j := 54) (a := 37) (ck_at dt_asked 32 rfl) own_asked (mf_at 38 rfl) (by decide) rfl rfl ?_
    refine z_ldk (ok := q_isA) (n := 0) (ck_at dt_asked 33 rfl) rfl rfl (fun _ => rfl) rfl rfl ?_
    refine z_getR (j := 45) (a := 31) (ck_at dt_asked 34 rfl) own_asked (mf_at 32 rfl) (by decide) rfl rfl ?_
    refine z_ldk (ok := q_isA) (n := 0) (ck_at dt_asked 35 rfl) rfl rfl (fun _ => rfl) rfl rfl ?_
    refine z_getR (j := 44) (a := 30) (ck_at dt_asked 36 rfl) own_asked (mf_at 31 rfl) (by decide) rfl rfl ?_
    refine z_ldk (ok := q_isI) (n := 1) (ck_at dt_asked 37 rfl) rfl rfl (fun _ => rfl) rfl rfl ?_
    refine z_iald (j := 44) (n := 6000) (ck_at dt_asked 38 rfl) rfl rfl rfl p2 p3 ?_
    refine z_iald (j := 45) (n := 6000) (ck_at dt_asked 39 rfl) rfl rfl rfl p6 p7 ?_
    refine z_iald (j := 54) (n := 2001) (ck_at dt_asked 40 rfl) rfl rfl rfl p8 p9 ?_
    refine z_virt (k' := k_clearNotes) (n := 2) (as := [iv (B 54 ((B 45 x1) + 1)), iv (B 54 (B 45 (B 44 x1)))]) (r := []) (ck_at dt_asked 41 rfl) own_asked (mm_at 36 rfl) vk_clearNotes rfl nl_clearNotes rfl rfl rfl rfl ?_
    exact w.mono (Nat.le_refl _) (fun o B' ⟨ho, w⟩ => ⟨none, ho, z_wk (r_asked_69_ok hm w) ⟨rfl, ⟨rfl, ⟨rfl, trivial⟩⟩⟩⟩)
  · intro q; have w := w.2 q
    obtain ⟨p10, p11, w⟩ := w
    refine z_ldk (ok := q_isA) (n := 0) (ck_at dt_asked 11 rfl) rfl rfl (fun _ => rfl) rfl rfl ?_
    refine z_getR (j := 70) (a := 44) (ck_at dt_asked 12 rfl) own_asked (mf_at 45 rfl) (by decide) rfl rfl ?_
    refine z_ldk (ok := q_isI) (n := 3) (ck_at dt_asked 13 rfl) rfl rfl (fun _ => rfl) rfl rfl ?_
    refine z_ldk (ok := q_isA) (n := 0) (ck_at dt_asked 14 rfl) rfl rfl (fun _ => rfl) rfl rfl ?_
    refine z_getR (j := 49) (a := 32) (ck_at dt_asked 15 rfl) own_asked (mf_at 33 rfl) (by decide) rfl rfl ?_
    refine z_ldk (ok := q_isI) (n := 3) (ck_at dt_asked 16 rfl) rfl rfl (fun _ => rfl) rfl rfl ?_
    refine z_iald (j := 49) (n := 20) (ck_at dt_asked 17 rfl) rfl rfl rfl p10 p11 ?_
    refine z_iast (j := 70) (n := 20) hm (ck_at dt_asked 18 rfl) rfl rfl rfl p10 p11 ?_
    refine z_iinc (n := 3) (L' := [some (.ref m), some (iv x1), some (iv x2), some (iv (x3 + 1)), none]) (ck_at dt_asked 19 rfl) rfl nl_asked (by decide) rfl rfl ?_
    refine z_goto (t := 12) (ck_at dt_asked 20 rfl) rfl ?_
    exact z_wk w ⟨rfl, ⟨rfl, ⟨rfl, ⟨rfl, trivial⟩⟩⟩⟩
def r_asked_0 (m : Nat) (h0 : qH) (d : Nat) (B : qB) (Q : qO → qB → Prop) : Prop := qZ m h0 (d + 1) k_asked 12 [some (.ref m), some (iv (B 68 0)), some (iv (B 69 0)), some (iv 0), none] [] B Q
theorem r_asked_0_ok {m : Nat} {h0 : qH} {d : Nat} {B : qB} {Q : qO → qB → Prop} (hm : m + 100 < 1000000000) (w : r_asked_0 m h0 d B Q) : qZ m h0 (d + 1) k_asked 0 [some (.ref m), none, none, none, none] [] B Q := by
  unfold r_asked_0 at w
  refine z_ldk (ok := q_isA) (n := 0) (ck_at dt_asked 0 rfl) rfl rfl (fun _ => rfl) rfl rfl ?_
  refine z_getI (j := 68) (ck_at dt_asked 1 rfl) own_asked (mf_at 70 rfl) (by decide) rfl ?_
  refine z_st1 (ok := q_isI) (n := 1) (L' := [some (.ref m), some (iv (B 68 0)), none, none, none]) (ck_at dt_asked 2 rfl) rfl (fun _ => rfl) (fun _ _ => rfl) rfl nl_asked (by decide) rfl rfl ?_
  refine z_ldk (ok := q_isA) (n := 0) (ck_at dt_asked 3 rfl) rfl rfl (fun _ => rfl) rfl rfl ?_
  refine z_getI (j := 69) (ck_at dt_asked 4 rfl) own_asked (mf_at 71 rfl) (by decide) rfl ?_
  refine z_st1 (ok := q_isI) (n := 2) (L' := [some (.ref m), some (iv (B 68 0)), some (iv (B 69 0)), none, none]) (ck_at dt_asked 5 rfl) rfl (fun _ => rfl) (fun _ _ => rfl) rfl nl_asked (by decide) rfl rfl ?_
  refine z_op (ck_at dt_asked 6 rfl) rfl (o_const _) ?_
  refine z_st1 (ok := q_isI) (n := 3) (L' := [some (.ref m), some (iv (B 68 0)), some (iv (B 69 0)), some (iv 0), none]) (ck_at dt_asked 7 rfl) rfl (fun _ => rfl) (fun _ _ => rfl) rfl nl_asked (by decide) rfl rfl ?_
  exact z_wk w ⟨rfl, ⟨rfl, ⟨rfl, ⟨rfl, trivial⟩⟩⟩⟩
/-! tryAt(I)I -/
def t_tryAt : List (Nat × Instr × Nat) := [(0, .iconst 0, 1), (1, .istore_n 2, 1), (2, .iload_n 2, 1), (3, .bipush 20, 2), (5, .if_icmp .ge 16, 3), (8, .aload_n 0, 1), (9, .getfield 112, 3), (12, .iload_n 2, 1), (13, .iconst (-1), 1), (14, .iastore, 1), (15, .iinc 2 1, 3), (18, .goto (-16), 3), (21, .iconst 0, 1), (22, .istore_n 2, 1), (23, .iload_n 2, 1), (24, .aload_n 0, 1), (25, .getfield 308, 3), (28, .if_icmp .ge 16, 3), (31, .aload_n 0, 1), (32, .getfield 118, 3), (35, .iload_n 2, 1), (36, .iconst (-1), 1), (37, .iastore, 1), (38, .iinc 2 1, 3), (41, .goto (-18), 3), (44, .aload_n 0, 1), (45, .iconst 0, 1), (46, .putfield 318, 3), (49, .aload_n 0, 1), (50, .iload_n 1, 1), (51, .invokevirtual 380, 3), (54, .istore_n 2, 1), (55, .iload_n 2, 1), (56, .ifCond .ge 5, 3), (59, .iconst (-1), 1), (60, .ireturn, 1), (61, .aload_n 0, 1), (62, .getfield 112, 3), (65, .iconst 0, 1), (66, .iload_n 1, 1), (67, .iastore, 1), (68, .aload_n 0, 1), (69, .getfield 112, 3), (72, .iconst 1, 1), (73, .iload_n 2, 1), (74, .iastore, 1), (75, .iload_n 2, 1), (76, .ireturn, 1)]
set_option maxRecDepth 100000 in
theorem dt_tryAt : q_ck k_tryAt t_tryAt = true := by decide +kernel
def r_tryAt_54 (m : Nat) (h0 : qH) (d : Nat) (x1 s0 : Int) (B : qB) (Q : qO → qB → Prop) : Prop := R32 s0 ∧ (s0 ≥ 0 → Q (.inl (some (iv s0))) (u2 (u2 B 49 0 x1) 49 1 s0)) ∧ (s0 < 0 → Q (.inl (some (iv (-1)))) B)
theorem r_tryAt_54_ok {m : Nat} {h0 : qH} {d : Nat} {x1 s0 : Int} {B : qB} {Q : qO → qB → Prop} (hm : m + 100 < 1000000000) (w : r_tryAt_54 m h0 d x1 s0 B Q) : qZ m h0 (d + 1) k_tryAt 54 [some (.ref m), some (iv x1), none] [iv s0] B Q := by
  unfold r_tryAt_54 at w
  obtain ⟨p1, w⟩ := w
  refine z_st1 (ok := q_isI) (n := 2) (L' := [some (.ref m), some (iv x1), some (iv s0)]) (ck_at dt_tryAt 31 rfl) rfl (fun _ => rfl) (fun _ _ => rfl) rfl nl_tryAt (by decide) rfl rfl ?_
  refine z_ldk (ok := q_isI) (n := 2) (ck_at dt_tryAt 32 rfl) rfl rfl (fun _ => rfl) rfl rfl ?_
  refine z_ifz (t := 61) (ck_at dt_tryAt 33 rfl) rfl p1 ?_ ?_
  · intro q; have w := w.1 q
    refine z_ldk (ok := q_isA) (n := 0) (ck_at dt_tryAt 36 rfl) rfl rfl (fun _ => rfl) rfl rfl ?_
    refine z_getR (j := 49) (a := 32) (ck_at dt_tryAt 37 rfl) own_tryAt (mf_at 33 rfl) (by decide) rfl rfl ?_
    refine z_op (ck_at dt_tryAt 38 rfl) rfl (o_const _) ?_
    refine z_ldk (ok := q_isI) (n := 1) (ck_at dt_tryAt 39 rfl) rfl rfl (fun _ => rfl) rfl rfl ?_
    refine z_iast (j := 49) (n := 20) hm (ck_at dt_tryAt 40 rfl) rfl rfl rfl (by decide) (by decide) ?_
    refine z_ldk (ok := q_isA) (n := 0) (ck_at dt_tryAt 41 rfl) rfl rfl (fun _ => rfl) rfl rfl ?_
    refine z_getR (j := 49) (a := 32) (ck_at dt_tryAt 42 rfl) own_tryAt (mf_at 33 rfl) (by decide) rfl rfl ?_
    refine z_op (ck_at dt_tryAt 43 rfl) rfl (o_const _) ?_
    refine z_ldk (ok := q_isI) (n := 2) (ck_at dt_tryAt 44 rfl) rfl rfl (fun _ => rfl) rfl rfl ?_
    refine z_iast (j := 49) (n := 20) hm (ck_at dt_tryAt 45 rfl) rfl rfl rfl (by decide) (by decide) ?_
    refine z_ldk (ok := q_isI) (n := 2) (ck_at dt_tryAt 46 rfl) rfl rfl (fun _ => rfl) rfl rfl ?_
    exact z_retI (ck_at dt_tryAt 47 rfl) rt_tryAt w
  · intro q; have w := w.2 q
    refine z_op (ck_at dt_tryAt 34 rfl) rfl (o_const _) ?_
    exact z_retI (ck_at dt_tryAt 35 rfl) rt_tryAt w
def r_tryAt_23 (m : Nat) (h0 : qH) (d : Nat) (x1 x2 : Int) (B : qB) (Q : qO → qB → Prop) : Prop := R32 x2 ∧ R32 (B 47 0) ∧ (x2 ≥ B 47 0 → qZ m h0 d k_go 0 [some (.ref m), some (iv x1), none, none] [] (u2 B 66 0 0) (fun o B' => ∃ v : Int, o = .inl (some (iv v)) ∧ r_tryAt_54 m h0 d x1 v B' Q)) ∧ (x2 < B 47 0 → 0 ≤ x2 ∧ x2 < 800 ∧ qZ m h0 (d + 1) k_tryAt 23 [some (.ref m), some (iv x1), some (iv (x2 + 1))] [] (u2 B 51 x2 (-1)) Q)
theorem r_tryAt_23_ok {m : Nat} {h0 : qH} {d : Nat} {x1 x2 : Int} {B : qB} {Q : qO → qB → Prop} (hm : m + 100 < 1000000000) (w : r_tryAt_23 m h0 d x1 x2 B Q) : qZ m h0 (d + 1) k_tryAt 23 [some (.ref m), some (iv x1), some (iv x2)] [] B Q := by
  unfold r_tryAt_23 at w
  obtain ⟨p1, p2, w⟩ := w
  refine z_ldk (ok := q_isI) (n := 2) (ck_at dt_tryAt 14 rfl) rfl rfl (fun _ => rfl) rfl rfl ?_
  refine z_ldk (ok := q_isA) (n := 0) (ck_at dt_tryAt 15 rfl) rfl rfl (fun _ => rfl) rfl rfl ?_
  refine z_getI (j := 47) (ck_at dt_tryAt 16 rfl) own_tryAt (mf_at 62 rfl) (by decide) rfl ?_
  refine z_icmp (t := 44) (ck_at dt_tryAt 17 rfl) rfl p1 p2 ?_ ?_
  · intro q; have w := w.1 q
    refine z_ldk (ok := q_isA) (n := 0) (ck_at dt_tryAt 25 rfl) rfl rfl (fun _ => rfl) rfl rfl ?_
    refine z_op (ck_at dt_tryAt 26 rfl) rfl (o_const _) ?_
    refine z_putI (j := 66) hm (ck_at dt_tryAt 27 rfl) own_tryAt (mf_at 69 rfl) (by decide) rfl rfl rfl ?_
    refine z_ldk (ok := q_isA) (n := 0) (ck_at dt_tryAt 28 rfl) rfl rfl (fun _ => rfl) rfl rfl ?_
    refine z_ldk (ok := q_isI) (n := 1) (ck_at dt_tryAt 29 rfl) rfl rfl (fun _ => rfl) rfl rfl ?_
    refine z_virt (k' := k_go) (n := 2) (as := [iv x1]) (r := []) (ck_at dt_tryAt 30 rfl) own_tryAt (mm_at 37 rfl) vk_go rfl nl_go rfl rfl rfl rfl ?_
    exact w.mono (Nat.le_refl _) (fun o B' ⟨v, ho, w⟩ => ⟨some (iv v), ho, z_wk (r_tryAt_54_ok hm w) ⟨rfl, ⟨rfl, trivial⟩⟩⟩)
  · intro q; have w := w.2 q
    obtain ⟨p3, p4, w⟩ := w
    refine z_ldk (ok := q_isA) (n := 0) (ck_at dt_tryAt 18 rfl) rfl rfl (fun _ => rfl) rfl rfl ?_
    refine z_getR (j := 51) (a := 34) (ck_at dt_tryAt 19 rfl) own_tryAt (mf_at 35 rfl) (by decide) rfl rfl ?_
    refine z_ldk (ok := q_isI) (n := 2) (ck_at dt_tryAt 20 rfl) rfl rfl (fun _ => rfl) rfl rfl ?_
    refine z_op (ck_at dt_tryAt 21 rfl) rfl (o_const _) ?_
    refine z_iast (j := 51) (n := 800) hm (ck_at dt_tryAt 22 rfl) rfl rfl rfl p3 p4 ?_
    refine z_iinc (n := 2) (L' := [some (.ref m), some (iv x1), some (iv (x2 + 1))]) (ck_at dt_tryAt 23 rfl) rfl nl_tryAt (by decide) rfl rfl ?_
    refine z_goto (t := 23) (ck_at dt_tryAt 24 rfl) rfl ?_
    exact z_wk w ⟨rfl, ⟨rfl, ⟨rfl, trivial⟩⟩⟩
def r_tryAt_2 (m : Nat) (h0 : qH) (d : Nat) (x1 x2 : Int) (B : qB) (Q : qO → qB → Prop) : Prop := R32 x2 ∧ (x2 ≥ 20 → qZ m h0 (d + 1) k_tryAt 23 [some (.ref m), some (iv x1), some (iv 0)] [] B Q) ∧ (x2 < 20 → 0 ≤ x2 ∧ x2 < 20 ∧ qZ m h0 (d + 1) k_tryAt 2 [some (.ref m), some (iv x1), some (iv (x2 + 1))] [] (u2 B 49 x2 (-1)) Q)
theorem r_tryAt_2_ok {m : Nat} {h0 : qH} {d : Nat} {x1 x2 : Int} {B : qB} {Q : qO → qB → Prop} (hm : m + 100 < 1000000000) (w : r_tryAt_2 m h0 d x1 x2 B Q) : qZ m h0 (d + 1) k_tryAt 2 [some (.ref m), some (iv x1), some (iv x2)] [] B Q := by
  unfold r_tryAt_2 at w
  obtain ⟨p1, w⟩ := w
  refine z_ldk (ok := q_isI) (n := 2) (ck_at dt_tryAt 2 rfl) rfl rfl (fun _ => rfl) rfl rfl ?_
  refine z_op (ck_at dt_tryAt 3 rfl) rfl (o_bipush _ (by decide)) ?_
  refine z_icmp (t := 21) (ck_at dt_tryAt 4 rfl) rfl p1 ⟨by decide, by decide⟩ ?_ ?_
  · intro q; have w := w.1 q
    refine z_op (ck_at dt_tryAt 12 rfl) rfl (o_const _) ?_
    refine z_st1 (ok := q_isI) (n := 2) (L' := [some (.ref m), some (iv x1), some (iv 0)]) (ck_at dt_tryAt 13 rfl) rfl (fun _ => rfl) (fun _ _ => rfl) rfl nl_tryAt (by decide) rfl rfl ?_
    exact z_wk w ⟨rfl, ⟨rfl, ⟨rfl, trivial⟩⟩⟩
  · intro q; have w := w.2 q
    obtain ⟨p2, p3, w⟩ := w
    refine z_ldk (ok := q_isA) (n := 0) (ck_at dt_tryAt 5 rfl) rfl rfl (fun _ => rfl) rfl rfl ?_
    refine z_getR (j := 49) (a := 32) (ck_at dt_tryAt 6 rfl) own_tryAt (mf_at 33 rfl) (by decide) rfl rfl ?_
    refine z_ldk (ok := q_isI) (n := 2) (ck_at dt_tryAt 7 rfl) rfl rfl (fun _ => rfl) rfl rfl ?_
    refine z_op (ck_at dt_tryAt 8 rfl) rfl (o_const _) ?_
    refine z_iast (j := 49) (n := 20) hm (ck_at dt_tryAt 9 rfl) rfl rfl rfl p2 p3 ?_
    refine z_iinc (n := 2) (L' := [some (.ref m), some (iv x1), some (iv (x2 + 1))]) (ck_at dt_tryAt 10 rfl) rfl nl_tryAt (by decide) rfl rfl ?_
    refine z_goto (t := 2) (ck_at dt_tryAt 11 rfl) rfl ?_
    exact z_wk w ⟨rfl, ⟨rfl, ⟨rfl, trivial⟩⟩⟩
def r_tryAt_0 (m : Nat) (h0 : qH) (d : Nat) (x1 : Int) (B : qB) (Q : qO → qB → Prop) : Prop := qZ m h0 (d + 1) k_tryAt 2 [some (.ref m), some (iv x1), some (iv 0)] [] B Q
theorem r_tryAt_0_ok {m : Nat} {h0 : qH} {d : Nat} {x1 : Int} {B : qB} {Q : qO → qB → Prop} (hm : m + 100 < 1000000000) (w : r_tryAt_0 m h0 d x1 B Q) : qZ m h0 (d + 1) k_tryAt 0 [some (.ref m), some (iv x1), none] [] B Q := by
  unfold r_tryAt_0 at w
  refine z_op (ck_at dt_tryAt 0 rfl) rfl (o_const _) ?_
  refine z_st1 (ok := q_isI) (n := 2) (L' := [some (.ref m), some (iv x1), some (iv 0)]) (ck_at dt_tryAt 1 rfl) rfl (fun _ => rfl) (fun _ _ => rfl) rfl nl_tryAt (by decide) rfl rfl ?_
  exact z_wk w ⟨rfl, ⟨rfl, ⟨rfl, trivial⟩⟩⟩
