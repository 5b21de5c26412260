/-! newNode(III)I -/
def t_newNode : List (Nat × Instr × Nat) := [(0, .aload_n 0, 1), (1, .getfield 50, 3), (4, .aload_n 0, 1), (5, .getfield 180, 3), (8, .iload_n 1, 1), (9, .iastore, 1), (10, .aload_n 0, 1), (11, .getfield 53, 3), (14, .aload_n 0, 1), (15, .getfield 180, 3), (18, .iload_n 2, 1), (19, .iastore, 1), (20, .aload_n 0, 1), (21, .getfield 56, 3), (24, .aload_n 0, 1), (25, .getfield 180, 3), (28, .iload_n 3, 1), (29, .iastore, 1), (30, .aload_n 0, 1), (31, .getfield 59, 3), (34, .aload_n 0, 1), (35, .getfield 180, 3), (38, .iconst 0, 1), (39, .iastore, 1), (40, .aload_n 0, 1), (41, .getfield 62, 3), (44, .aload_n 0, 1), (45, .getfield 180, 3), (48, .iconst 0, 1), (49, .iastore, 1), (50, .aload_n 0, 1), (51, .getfield 65, 3), (54, .aload_n 0, 1), (55, .getfield 180, 3), (58, .iconst 0, 1), (59, .iastore, 1), (60, .aload_n 0, 1), (61, .getfield 71, 3), (64, .aload_n 0, 1), (65, .getfield 180, 3), (68, .iconst 0, 1), (69, .iastore, 1), (70, .aload_n 0, 1), (71, .getfield 74, 3), (74, .aload_n 0, 1), (75, .getfield 180, 3), (78, .iconst 0, 1), (79, .bastore, 1), (80, .aload_n 0, 1), (81, .dup, 1), (82, .getfield 180, 3), (85, .iconst 1, 1), (86, .iadd, 1), (87, .putfield 180, 3), (90, .aload_n 0, 1), (91, .getfield 180, 3), (94, .iconst 1, 1), (95, .isub, 1), (96, .ireturn, 1)]
set_option maxRecDepth 100000 in
theorem dt_newNode : q_ck k_newNode t_newNode = true := by decide +kernel
def r_newNode_0 (m : Nat) (h0 : qH) (d : Nat) (x1 x2 x3 : Int) (B : qB) (Q : qO → qB → Prop) : Prop := 0 ≤ B 28 0 ∧ B 28 0 < 3000 ∧ Q (.inl (some (iv (((B 28 0) + 1) - 1)))) (u2 (u2 (u2 (u2 (u2 (u2 (u2 (u2 (u2 B 17 (B 28 0) x1) 18 (B 28 0) x2) 19 (B 28 0) x3) 20 (B 28 0) 0) 21 (B 28 0) 0) 22 (B 28 0) 0) 24 (B 28 0) 0) 25 (B 28 0) 0) 28 0 ((B 28 0) + 1))
theorem r_newNode_0_ok {m : Nat} {h0 : qH} {d : Nat} {x1 x2 x3 : Int} {B : qB} {Q : qO → qB → Prop} (hm : m + 100 < 1000000000) (w : r_newNode_0 m h0 d x1 x2 x3 B Q) : qZ m h0 (d + 1) k_newNode 0 [some (.ref m), some (iv x1), some (iv x2), some (iv x3)] [] B Q := by
  unfold r_newNode_0 at w
  obtain ⟨p1, p2, w⟩ := w
  refine z_ldk (ok := q_isA) (n := 0) (ck_at dt_newNode 0 rfl) rfl rfl (fun _ => rfl) rfl rfl ?_
  refine z_getR (j := 17) (a := 12) (ck_at dt_newNode 1 rfl) own_newNode (mf_at 13 rfl) (by decide) rfl rfl ?_
  refine z_ldk (ok := q_isA) (n := 0) (ck_at dt_newNode 2 rfl) rfl rfl (fun _ => rfl) rfl rfl ?_
  refine z_getI (j := 28) (ck_at dt_newNode 3 rfl) own_newNode (mf_at 54 rfl) (by decide) rfl ?_
  refine z_ldk (ok := q_isI) (n := 1) (ck_at dt_newNode 4 rfl) rfl rfl (fun _ => rfl) rfl rfl ?_
  refine z_iast (j := 17) (n := 3000) hm (ck_at dt_newNode 5 rfl) rfl rfl rfl p1 p2 ?_
  refine z_ldk (ok := q_isA) (n := 0) (ck_at dt_newNode 6 rfl) rfl rfl (fun _ => rfl) rfl rfl ?_
  refine z_getR (j := 18) (a := 13) (ck_at dt_newNode 7 rfl) own_newNode (mf_at 14 rfl) (by decide) rfl rfl ?_
  refine z_ldk (ok := q_isA) (n := 0) (ck_at dt_newNode 8 rfl) rfl rfl (fun _ => rfl) rfl rfl ?_
  refine z_getI (j := 28) (ck_at dt_newNode 9 rfl) own_newNode (mf_at 54 rfl) (by decide) rfl ?_
  refine z_ldk (ok := q_isI) (n := 2) (ck_at dt_newNode 10 rfl) rfl rfl (fun _ => rfl) rfl rfl ?_
  refine z_iast (j := 18) (n := 3000) hm (ck_at dt_newNode 11 rfl) rfl rfl rfl p1 p2 ?_
  refine z_ldk (ok := q_isA) (n := 0) (ck_at dt_newNode 12 rfl) rfl rfl (fun _ => rfl) rfl rfl ?_
  refine z_getR (j := 19) (a := 14) (ck_at dt_newNode 13 rfl) own_newNode (mf_at 15 rfl) (by decide) rfl rfl ?_
  refine z_ldk (ok := q_isA) (n := 0) (ck_at dt_newNode 14 rfl) rfl rfl (fun _ => rfl) rfl rfl ?_
  refine z_getI (j := 28) (ck_at dt_newNode 15 rfl) own_newNode (mf_at 54 rfl) (by decide) rfl ?_
  refine z_ldk (ok := q_isI) (n := 3) (ck_at dt_newNode 16 rfl) rfl rfl (fun _ => rfl) rfl rfl ?_
  refine z_iast (j := 19) (n := 3000) hm (ck_at dt_newNode 17 rfl) rfl rfl rfl p1 p2 ?_
  refine z_ldk (ok := q_isA) (n := 0) (ck_at dt_newNode 18 rfl) rfl rfl (fun _ => rfl) rfl rfl ?_
  refine z_getR (j := 20) (a := 15) (ck_at dt_newNode 19 rfl) own_newNode (mf_at 16 rfl) (by decide) rfl rfl ?_
  refine z_ldk (ok := q_isA) (n := 0) (ck_at dt_newNode 20 rfl) rfl rfl (fun _ => rfl) rfl rfl ?_
  refine z_getI (j := 28) (ck_at dt_newNode 21 rfl) own_newNode (mf_at 54 rfl) (by decide) rfl ?_
  refine z_op (ck_at dt_newNode 22 rfl) rfl (o_const _) ?_
  refine z_iast (j := 20) (n := 3000) hm (ck_at dt_newNode 23 rfl) rfl rfl rfl p1 p2 ?_
  refine z_ldk (ok := q_isA) (n := 0) (ck_at dt_newNode 24 rfl) rfl rfl (fun _ => rfl) rfl rfl ?_
  refine z_getR (j := 21) (a := 16) (ck_at dt_newNode 25 rfl) own_newNode (mf_at 17 rfl) (by decide) rfl rfl ?_
  refine z_ldk (ok := q_isA) (n := 0) (ck_at dt_newNode 26 rfl) rfl rfl (fun _ => rfl) rfl rfl ?_
  refine z_getI (j := 28) (ck_at dt_newNode 27 rfl) own_newNode (mf_at 54 rfl) (by decide) rfl ?_
  refine z_op (ck_at dt_newNode 28 rfl) rfl (o_const _) ?_
  refine z_iast (j := 21) (n := 3000) hm (ck_at dt_newNode 29 rfl) rfl rfl rfl p1 p2 ?_
  refine z_ldk (ok := q_isA) (n := 0) (ck_at dt_newNode 30 rfl) rfl rfl (fun _ => rfl) rfl rfl ?_
  refine z_getR (j := 22) (a := 17) (ck_at dt_newNode 31 rfl) own_newNode (mf_at 18 rfl) (by decide) rfl rfl ?_
  refine z_ldk (ok := q_isA) (n := 0) (ck_at dt_newNode 32 rfl) rfl rfl (fun _ => rfl) rfl rfl ?_
  refine z_getI (j := 28) (ck_at dt_newNode 33 rfl) own_newNode (mf_at 54 rfl) (by decide) rfl ?_
  refine z_op (ck_at dt_newNode 34 rfl) rfl (o_const _) ?_
  refine z_iast (j := 22) (n := 3000) hm (ck_at dt_newNode 35 rfl) rfl rfl rfl p1 p2 ?_
  refine z_ldk (ok := q_isA) (n := 0) (ck_at dt_newNode 36 rfl) rfl rfl (fun _ => rfl) rfl rfl ?_
  refine z_getR (j := 24) (a := 19) (ck_at dt_newNode 37 rfl) own_newNode (mf_at 20 rfl) (by decide) rfl rfl ?_
  refine z_ldk (ok := q_isA) (n := 0) (ck_at dt_newNode 38 rfl) rfl rfl (fun _ => rfl) rfl rfl ?_
  refine z_getI (j := 28) (ck_at dt_newNode 39 rfl) own_newNode (mf_at 54 rfl) (by decide) rfl ?_
  refine z_op (ck_at dt_newNode 40 rfl) rfl (o_const _) ?_
  refine z_iast (j := 24) (n := 3000) hm (ck_at dt_newNode 41 rfl) rfl rfl rfl p1 p2 ?_
  refine z_ldk (ok := q_isA) (n := 0) (ck_at dt_newNode 42 rfl) rfl rfl (fun _ => rfl) rfl rfl ?_
  refine z_getR (j := 25) (a := 20) (ck_at dt_newNode 43 rfl) own_newNode (mf_at 21 rfl) (by decide) rfl rfl ?_
  refine z_ldk (ok := q_isA) (n := 0) (ck_at dt_newNode 44 rfl) rfl rfl (fun _ => rfl) rfl rfl ?_
  refine z_getI (j := 28) (ck_at dt_newNode 45 rfl) own_newNode (mf_at 54 rfl) (by decide) rfl ?_
  refine z_op (ck_at dt_newNode 46 rfl) rfl (o_const _) ?_
  refine z_bast (j := 25) (n := 3000) hm (ck_at dt_newNode 47 rfl) rfl rfl rfl p1 p2 (by decide) ?_
  refine z_ldk (ok := q_isA) (n := 0) (ck_at dt_newNode 48 rfl) rfl rfl (fun _ => rfl) rfl rfl ?_
  refine z_op (ck_at dt_newNode 49 rfl) rfl rfl ?_
  refine z_getI (j := 28) (ck_at dt_newNode 50 rfl) own_newNode (mf_at 54 rfl) (by decide) rfl ?_
  refine z_op (ck_at dt_newNode 51 rfl) rfl (o_const _) ?_
  refine z_op (ck_at dt_newNode 52 rfl) rfl o_iadd ?_
  refine z_putI (j := 28) hm (ck_at dt_newNode 53 rfl) own_newNode (mf_at 54 rfl) (by decide) rfl rfl rfl ?_
  refine z_ldk (ok := q_isA) (n := 0) (ck_at dt_newNode 54 rfl) rfl rfl (fun _ => rfl) rfl rfl ?_
  refine z_getI (j := 28) (ck_at dt_newNode 55 rfl) own_newNode (mf_at 54 rfl) (by decide) rfl ?_
  refine z_op (ck_at dt_newNode 56 rfl) rfl (o_const _) ?_
  refine z_op (ck_at dt_newNode 57 rfl) rfl o_isub ?_
  exact z_retI (ck_at dt_newNode 58 rfl) rt_newNode w
/-! wrong(I)I -/
def t_wrong : List (Nat × Instr × Nat) := [(0, .aload_n 0, 1), (1, .getfield 183, 3), (4, .ifCond .ge 8, 3), (7, .aload_n 0, 1), (8, .iload_n 1, 1), (9, .putfield 183, 3), (12, .iconst 0, 1), (13, .ireturn, 1)]
set_option maxRecDepth 100000 in
theorem dt_wrong : q_ck k_wrong t_wrong = true := by decide +kernel
def r_wrong_0 (m : Nat) (h0 : qH) (d : Nat) (x1 : Int) (B : qB) (Q : qO → qB → Prop) : Prop := R32 (B 35 0) ∧ (B 35 0 ≥ 0 → Q (.inl (some (iv 0))) B) ∧ (B 35 0 < 0 → Q (.inl (some (iv 0))) (u2 B 35 0 x1))
theorem r_wrong_0_ok {m : Nat} {h0 : qH} {d : Nat} {x1 : Int} {B : qB} {Q : qO → qB → Prop} (hm : m + 100 < 1000000000) (w : r_wrong_0 m h0 d x1 B Q) : qZ m h0 (d + 1) k_wrong 0 [some (.ref m), some (iv x1)] [] B Q := by
  unfold r_wrong_0 at w
  obtain ⟨p1, w⟩ := w
  refine z_ldk (ok := q_isA) (n := 0) (ck_at dt_wrong 0 rfl) rfl rfl (fun _ => rfl) rfl rfl ?_
  refine z_getI (j := 35) (ck_at dt_wrong 1 rfl) own_wrong (mf_at 51 rfl) (by decide) rfl ?_
  refine z_ifz (t := 12) (ck_at dt_wrong 2 rfl) rfl p1 ?_ ?_
  · intro q; have w := w.1 q
    refine z_op (ck_at dt_wrong 6 rfl) rfl (o_const _) ?_
    exact z_retI (ck_at dt_wrong 7 rfl) rt_wrong w
  · intro q; have w := w.2 q
    refine z_ldk (ok := q_isA) (n := 0) (ck_at dt_wrong 3 rfl) rfl rfl (fun _ => rfl) rfl rfl ?_
    refine z_ldk (ok := q_isI) (n := 1) (ck_at dt_wrong 4 rfl) rfl rfl (fun _ => rfl) rfl rfl ?_
    refine z_putI (j := 35) hm (ck_at dt_wrong 5 rfl) own_wrong (mf_at 51 rfl) (by decide) rfl rfl rfl ?_
    refine z_op (ck_at dt_wrong 6 rfl) rfl (o_const _) ?_
    exact z_retI (ck_at dt_wrong 7 rfl) rt_wrong w
/-! newSet()I -/
def t_newSet : List (Nat × Instr × Nat) := [(0, .iconst 0, 1), (1, .istore_n 1, 1), (2, .iload_n 1, 1), (3, .iconst 4, 1), (4, .if_icmp .ge 23, 3), (7, .aload_n 0, 1), (8, .getfield 78, 3), (11, .iconst 4, 1), (12, .aload_n 0, 1), (13, .getfield 186, 3), (16, .imul, 1), (17, .iload_n 1, 1), (18, .iadd, 1), (19, .lconst 0, 1), (20, .lastore, 1), (21, .iinc 1 1, 3), (24, .goto (-22), 3), (27, .aload_n 0, 1), (28, .dup, 1), (29, .getfield 186, 3), (32, .iconst 1, 1), (33, .iadd, 1), (34, .putfield 186, 3), (37, .aload_n 0, 1), (38, .getfield 186, 3), (41, .iconst 1, 1), (42, .isub, 1), (43, .ireturn, 1)]
set_option maxRecDepth 100000 in
theorem dt_newSet : q_ck k_newSet t_newSet = true := by decide +kernel
def r_newSet_2 (m : Nat) (h0 : qH) (d : Nat) (x1 : Int) (B : qB) (Q : qO → qB → Prop) : Prop := R32 x1 ∧ (x1 ≥ 4 → Q (.inl (some (iv (((B 29 0) + 1) - 1)))) (u2 B 29 0 ((B 29 0) + 1))) ∧ (x1 < 4 → 0 ≤ (4 * (B 29 0)) + x1 ∧ (4 * (B 29 0)) + x1 < 1024 ∧ qZ m h0 (d + 1) k_newSet 2 [some (.ref m), some (iv (x1 + 1))] [] (u2 B 27 ((4 * (B 29 0)) + x1) 0) Q)
theorem r_newSet_2_ok {m : Nat} {h0 : qH} {d : Nat} {x1 : Int} {B : qB} {Q : qO → qB → Prop} (hm : m + 100 < 1000000000) (w : r_newSet_2 m h0 d x1 B Q) : qZ m h0 (d + 1) k_newSet 2 [some (.ref m), some (iv x1)] [] B Q := by
  unfold r_newSet_2 at w
  obtain ⟨p1, w⟩ := w
  refine z_ldk (ok := q_isI) (n := 1) (ck_at dt_newSet 2 rfl) rfl rfl (fun _ => rfl) rfl rfl ?_
  refine z_op (ck_at dt_newSet 3 rfl) rfl (o_const _) ?_
  refine z_icmp (t := 27) (ck_at dt_newSet 4 rfl) rfl p1 ⟨by decide, by decide⟩ ?_ ?_
  · intro q; have w := w.1 q
    refine z_ldk (ok := q_isA) (n := 0) (ck_at dt_newSet 17 rfl) rfl rfl (fun _ => rfl) rfl rfl ?_
    refine z_op (ck_at dt_newSet 18 rfl) rfl rfl ?_
    refine z_getI (j := 29) (ck_at dt_newSet 19 rfl) own_newSet (mf_at 55 rfl) (by decide) rfl ?_
    refine z_op (ck_at dt_newSet 20 rfl) rfl (o_const _) ?_
    refine z_op (ck_at dt_newSet 21 rfl) rfl o_iadd ?_
    refine z_putI (j := 29) hm (ck_at dt_newSet 22 rfl) own_newSet (mf_at 55 rfl) (by decide) rfl rfl rfl ?_
    refine z_ldk (ok := q_isA) (n := 0) (ck_at dt_newSet 23 rfl) rfl rfl (fun _ => rfl) rfl rfl ?_
    refine z_getI (j := 29) (ck_at dt_newSet 24 rfl) own_newSet (mf_at 55 rfl) (by decide) rfl ?_
    refine z_op (ck_at dt_newSet 25 rfl) rfl (o_const _) ?_
    refine z_op (ck_at dt_newSet 26 rfl) rfl o_isub ?_
    exact z_retI (ck_at dt_newSet 27 rfl) rt_newSet w
  · intro q; have w := w.2 q
    obtain ⟨p2, p3, w⟩ := w
    refine z_ldk (ok := q_isA) (n := 0) (ck_at dt_newSet 5 rfl) rfl rfl (fun _ => rfl) rfl rfl ?_
    refine z_getR (j := 27) (a := 21) (ck_at dt_newSet 6 rfl) own_newSet (mf_at 22 rfl) (by decide) rfl rfl ?_
    refine z_op (ck_at dt_newSet 7 rfl) rfl (o_const _) ?_
    refine z_ldk (ok := q_isA) (n := 0) (ck_at dt_newSet 8 rfl) rfl rfl (fun _ => rfl) rfl rfl ?_
    refine z_getI (j := 29) (ck_at dt_newSet 9 rfl) own_newSet (mf_at 55 rfl) (by decide) rfl ?_
    refine z_op (ck_at dt_newSet 10 rfl) rfl o_imul ?_
    refine z_ldk (ok := q_isI) (n := 1) (ck_at dt_newSet 11 rfl) rfl rfl (fun _ => rfl) rfl rfl ?_
    refine z_op (ck_at dt_newSet 12 rfl) rfl o_iadd ?_
    refine z_op (ck_at dt_newSet 13 rfl) rfl o_lconst0 ?_
    refine z_last (j := 27) (n := 1024) hm (ck_at dt_newSet 14 rfl) rfl rfl rfl p2 p3 ?_
    refine z_iinc (n := 1) (L' := [some (.ref m), some (iv (x1 + 1))]) (ck_at dt_newSet 15 rfl) rfl nl_newSet (by decide) rfl rfl ?_
    refine z_goto (t := 2) (ck_at dt_newSet 16 rfl) rfl ?_
    exact z_weak ⟨rfl, ⟨rfl, trivial⟩⟩ (w)
def r_newSet_0 (m : Nat) (h0 : qH) (d : Nat) (B : qB) (Q : qO → qB → Prop) : Prop := qZ m h0 (d + 1) k_newSet 2 [some (.ref m), some (iv 0)] [] B Q
theorem r_newSet_0_ok {m : Nat} {h0 : qH} {d : Nat} {B : qB} {Q : qO → qB → Prop} (hm : m + 100 < 1000000000) (w : r_newSet_0 m h0 d B Q) : qZ m h0 (d + 1) k_newSet 0 [some (.ref m), none] [] B Q := by
  unfold r_newSet_0 at w
  refine z_op (ck_at dt_newSet 0 rfl) rfl (o_const _) ?_
  refine z_st1 (ok := q_isI) (n := 1) (L' := [some (.ref m), some (iv 0)]) (ck_at dt_newSet 1 rfl) rfl (fun _ => rfl) (fun _ _ => rfl) rfl nl_newSet (by decide) rfl rfl ?_
  exact z_weak ⟨rfl, ⟨rfl, trivial⟩⟩ (w)
/-! include(II)V -/
def t_include : List (Nat × Instr × Nat) := [(0, .aload_n 0, 1), (1, .getfield 78, 3), (4, .iconst 4, 1), (5, .iload_n 1, 1), (6, .imul, 1), (7, .iload_n 2, 1), (8, .bipush 6, 2), (10, .ishr, 1), (11, .iadd, 1), (12, .dup2, 1), (13, .laload, 1), (14, .lconst 1, 1), (15, .iload_n 2, 1), (16, .bipush 63, 2), (18, .iand, 1), (19, .lshl, 1), (20, .lor, 1), (21, .lastore, 1), (22, .return_, 1)]
set_option maxRecDepth 100000 in
theorem dt_include : q_ck k_include t_include = true := by decide +kernel
def r_include_0 (m : Nat) (h0 : qH) (d : Nat) (x1 x2 : Int) (B : qB) (Q : qO → qB → Prop) : Prop := 0 ≤ (4 * x1) + (iShr x2 6) ∧ (4 * x1) + (iShr x2 6) < 1024 ∧ Q (.inl none) (u2 B 27 ((4 * x1) + (iShr x2 6)) (lOr (B 27 ((4 * x1) + (iShr x2 6))) (lShl 1 (iAnd x2 63))))
theorem r_include_0_ok {m : Nat} {h0 : qH} {d : Nat} {x1 x2 : Int} {B : qB} {Q : qO → qB → Prop} (hm : m + 100 < 1000000000) (w : r_include_0 m h0 d x1 x2 B Q) : qZ m h0 (d + 1) k_include 0 [some (.ref m), some (iv x1), some (iv x2)] [] B Q := by
  unfold r_include_0 at w
  obtain ⟨p1, p2, w⟩ := w
  refine z_ldk (ok := q_isA) (n := 0) (ck_at dt_include 0 rfl) rfl rfl (fun _ => rfl) rfl rfl ?_
  refine z_getR (j := 27) (a := 21) (ck_at dt_include 1 rfl) own_include (mf_at 22 rfl) (by decide) rfl rfl ?_
  refine z_op (ck_at dt_include 2 rfl) rfl (o_const _) ?_
  refine z_ldk (ok := q_isI) (n := 1) (ck_at dt_include 3 rfl) rfl rfl (fun _ => rfl) rfl rfl ?_
  refine z_op (ck_at dt_include 4 rfl) rfl o_imul ?_
  refine z_ldk (ok := q_isI) (n := 2) (ck_at dt_include 5 rfl) rfl rfl (fun _ => rfl) rfl rfl ?_
  refine z_op (ck_at dt_include 6 rfl) rfl (o_bipush _ (by decide)) ?_
  refine z_op (ck_at dt_include 7 rfl) rfl o_ishr ?_
  refine z_op (ck_at dt_include 8 rfl) rfl o_iadd ?_
  refine z_op (ck_at dt_include 9 rfl) rfl rfl ?_
  refine z_lald (j := 27) (n := 1024) (ck_at dt_include 10 rfl) rfl rfl rfl p1 p2 ?_
  refine z_op (ck_at dt_include 11 rfl) rfl o_lconst1 ?_
  refine z_ldk (ok := q_isI) (n := 2) (ck_at dt_include 12 rfl) rfl rfl (fun _ => rfl) rfl rfl ?_
  refine z_op (ck_at dt_include 13 rfl) rfl (o_bipush _ (by decide)) ?_
  refine z_op (ck_at dt_include 14 rfl) rfl o_iand ?_
  refine z_op (ck_at dt_include 15 rfl) rfl o_lshl ?_
  refine z_op (ck_at dt_include 16 rfl) rfl o_lor ?_
  refine z_last (j := 27) (n := 1024) hm (ck_at dt_include 17 rfl) rfl rfl rfl p1 p2 ?_
  exact z_ret0 (ck_at dt_include 18 rfl) rt_include w
/-! has(II)Z -/
def t_has : List (Nat × Instr × Nat) := [(0, .aload_n 0, 1), (1, .getfield 78, 3), (4, .iconst 4, 1), (5, .iload_n 1, 1), (6, .imul, 1), (7, .iload_n 2, 1), (8, .bipush 6, 2), (10, .ishr, 1), (11, .iadd, 1), (12, .laload, 1), (13, .iload_n 2, 1), (14, .bipush 63, 2), (16, .iand, 1), (17, .lshr, 1), (18, .lconst 1, 1), (19, .land, 1), (20, .lconst 1, 1), (21, .lcmp, 1), (22, .ifCond .ne 7, 3), (25, .iconst 1, 1), (26, .goto 4, 3), (29, .iconst 0, 1), (30, .ireturn, 1)]
set_option maxRecDepth 100000 in
theorem dt_has : q_ck k_has t_has = true := by decide +kernel
def r_has_0 (m : Nat) (h0 : qH) (d : Nat) (x1 x2 : Int) (B : qB) (Q : qO → qB → Prop) : Prop := 0 ≤ (4 * x1) + (iShr x2 6) ∧ (4 * x1) + (iShr x2 6) < 1024 ∧ (¬ lCmp (lAnd (lShr (B 27 ((4 * x1) + (iShr x2 6))) (iAnd x2 63)) 1) 1 = 0 → Q (.inl (some (iv 0))) B) ∧ (lCmp (lAnd (lShr (B 27 ((4 * x1) + (iShr x2 6))) (iAnd x2 63)) 1) 1 = 0 → Q (.inl (some (iv 1))) B)
theorem r_has_0_ok {m : Nat} {h0 : qH} {d : Nat} {x1 x2 : Int} {B : qB} {Q : qO → qB → Prop} (hm : m + 100 < 1000000000) (w : r_has_0 m h0 d x1 x2 B Q) : qZ m h0 (d + 1) k_has 0 [some (.ref m), some (iv x1), some (iv x2)] [] B Q := by
  unfold r_has_0 at w
  obtain ⟨p1, p2, w⟩ := w
  refine z_ldk (ok := q_isA) (n := 0) (ck_at dt_has 0 rfl) rfl rfl (fun _ => rfl) rfl rfl ?_
  refine z_getR (j := 27) (a := 21) (ck_at dt_has 1 rfl) own_has (mf_at 22 rfl) (by decide) rfl rfl ?_
  refine z_op (ck_at dt_has 2 rfl) rfl (o_const _) ?_
  refine z_ldk (ok := q_isI) (n := 1) (ck_at dt_has 3 rfl) rfl rfl (fun _ => rfl) rfl rfl ?_
  refine z_op (ck_at dt_has 4 rfl) rfl o_imul ?_
  refine z_ldk (ok := q_isI) (n := 2) (ck_at dt_has 5 rfl) rfl rfl (fun _ => rfl) rfl rfl ?_
  refine z_op (ck_at dt_has 6 rfl) rfl (o_bipush _ (by decide)) ?_
  refine z_op (ck_at dt_has 7 rfl) rfl o_ishr ?_
  refine z_op (ck_at dt_has 8 rfl) rfl o_iadd ?_
  refine z_lald (j := 27) (n := 1024) (ck_at dt_has 9 rfl) rfl rfl rfl p1 p2 ?_
  refine z_ldk (ok := q_isI) (n := 2) (ck_at dt_has 10 rfl) rfl rfl (fun _ => rfl) rfl rfl ?_
  refine z_op (ck_at dt_has 11 rfl) rfl (o_bipush _ (by decide)) ?_
  refine z_op (ck_at dt_has 12 rfl) rfl o_iand ?_
  refine z_op (ck_at dt_has 13 rfl) rfl o_lshr ?_
  refine z_op (ck_at dt_has 14 rfl) rfl o_lconst1 ?_
  refine z_op (ck_at dt_has 15 rfl) rfl o_land ?_
  refine z_op (ck_at dt_has 16 rfl) rfl o_lconst1 ?_
  refine z_op (ck_at dt_has 17 rfl) rfl o_lcmp ?_
  refine z_ifz (t := 29) (ck_at dt_has 18 rfl) rfl (R32_i _) ?_ ?_
  · intro q; have w := w.1 q
    refine z_op (ck_at dt_has 21 rfl) rfl (o_const _) ?_
    exact z_retZ (ck_at dt_has 22 rfl) rt_has (by decide) w
  · intro q; have w := w.2 q
    refine z_op (ck_at dt_has 19 rfl) rfl (o_const _) ?_
    refine z_goto (t := 30) (ck_at dt_has 20 rfl) rfl ?_
    exact z_retZ (ck_at dt_has 22 rfl) rt_has (by decide) w
/-! signAt(I)I -/
def t_signAt : List (Nat × Instr × Nat) := [(0, .iload_n 1, 1), (1, .aload_n 0, 1), (2, .getfield 177, 3), (5, .if_icmp .ge 12, 3), (8, .aload_n 0, 1), (9, .getfield 82, 3), (12, .iload_n 1, 1), (13, .iaload, 1), (14, .goto 4, 3), (17, .iconst (-1), 1), (18, .ireturn, 1)]
set_option maxRecDepth 100000 in
theorem dt_signAt : q_ck k_signAt t_signAt = true := by decide +kernel
def r_signAt_0 (m : Nat) (h0 : qH) (d : Nat) (x1 : Int) (B : qB) (Q : qO → qB → Prop) : Prop := R32 x1 ∧ R32 (B 32 0) ∧ (x1 ≥ B 32 0 → Q (.inl (some (iv (-1)))) B) ∧ (x1 < B 32 0 → 0 ≤ x1 ∧ x1 < 200 ∧ Q (.inl (some (iv (B 31 x1)))) B)
theorem r_signAt_0_ok {m : Nat} {h0 : qH} {d : Nat} {x1 : Int} {B : qB} {Q : qO → qB → Prop} (hm : m + 100 < 1000000000) (w : r_signAt_0 m h0 d x1 B Q) : qZ m h0 (d + 1) k_signAt 0 [some (.ref m), some (iv x1)] [] B Q := by
  unfold r_signAt_0 at w
  obtain ⟨p1, p2, w⟩ := w
  refine z_ldk (ok := q_isI) (n := 1) (ck_at dt_signAt 0 rfl) rfl rfl (fun _ => rfl) rfl rfl ?_
  refine z_ldk (ok := q_isA) (n := 0) (ck_at dt_signAt 1 rfl) rfl rfl (fun _ => rfl) rfl rfl ?_
  refine z_getI (j := 32) (ck_at dt_signAt 2 rfl) own_signAt (mf_at 50 rfl) (by decide) rfl ?_
  refine z_icmp (t := 17) (ck_at dt_signAt 3 rfl) rfl p1 p2 ?_ ?_
  · intro q; have w := w.1 q
    refine z_op (ck_at dt_signAt 9 rfl) rfl (o_const _) ?_
    exact z_retI (ck_at dt_signAt 10 rfl) rt_signAt w
  · intro q; have w := w.2 q
    obtain ⟨p3, p4, w⟩ := w
    refine z_ldk (ok := q_isA) (n := 0) (ck_at dt_signAt 4 rfl) rfl rfl (fun _ => rfl) rfl rfl ?_
    refine z_getR (j := 31) (a := 22) (ck_at dt_signAt 5 rfl) own_signAt (mf_at 23 rfl) (by decide) rfl rfl ?_
    refine z_ldk (ok := q_isI) (n := 1) (ck_at dt_signAt 6 rfl) rfl rfl (fun _ => rfl) rfl rfl ?_
    refine z_iald (j := 31) (n := 200) (ck_at dt_signAt 7 rfl) rfl rfl rfl p3 p4 ?_
    refine z_goto (t := 18) (ck_at dt_signAt 8 rfl) rfl ?_
    exact z_retI (ck_at dt_signAt 10 rfl) rt_signAt w
/-! in(III)Z -/
def t_in : List (Nat × Instr × Nat) := [(0, .iload_n 0, 1), (1, .iload_n 1, 1), (2, .if_icmp .lt 12, 3), (5, .iload_n 0, 1), (6, .iload_n 2, 1), (7, .if_icmp .gt 7, 3), (10, .iconst 1, 1), (11, .goto 4, 3), (14, .iconst 0, 1), (15, .ireturn, 1)]
set_option maxRecDepth 100000 in
theorem dt_in : q_ck k_in t_in = true := by decide +kernel
def r_in_0 (m : Nat) (h0 : qH) (d : Nat) (x0 x1 x2 : Int) (B : qB) (Q : qO → qB → Prop) : Prop := R32 x0 ∧ R32 x1 ∧ (x0 < x1 → Q (.inl (some (iv 0))) B) ∧ (x0 ≥ x1 → R32 x2 ∧ (x0 > x2 → Q (.inl (some (iv 0))) B) ∧ (x0 ≤ x2 → Q (.inl (some (iv 1))) B))
theorem r_in_0_ok {m : Nat} {h0 : qH} {d : Nat} {x0 x1 x2 : Int} {B : qB} {Q : qO → qB → Prop} (hm : m + 100 < 1000000000) (w : r_in_0 m h0 d x0 x1 x2 B Q) : qZ m h0 (d + 1) k_in 0 [some (iv x0), some (iv x1), some (iv x2)] [] B Q := by
  unfold r_in_0 at w
  obtain ⟨p1, p2, w⟩ := w
  refine z_ldk (ok := q_isI) (n := 0) (ck_at dt_in 0 rfl) rfl rfl (fun _ => rfl) rfl rfl ?_
  refine z_ldk (ok := q_isI) (n := 1) (ck_at dt_in 1 rfl) rfl rfl (fun _ => rfl) rfl rfl ?_
  refine z_icmp (t := 14) (ck_at dt_in 2 rfl) rfl p1 p2 ?_ ?_
  · intro q; have w := w.1 q
    refine z_op (ck_at dt_in 8 rfl) rfl (o_const _) ?_
    exact z_retZ (ck_at dt_in 9 rfl) rt_in (by decide) w
  · intro q; have w := w.2 q
    obtain ⟨p3, w⟩ := w
    refine z_ldk (ok := q_isI) (n := 0) (ck_at dt_in 3 rfl) rfl rfl (fun _ => rfl) rfl rfl ?_
    refine z_ldk (ok := q_isI) (n := 2) (ck_at dt_in 4 rfl) rfl rfl (fun _ => rfl) rfl rfl ?_
    refine z_icmp (t := 14) (ck_at dt_in 5 rfl) rfl p1 p3 ?_ ?_
    · intro q; have w := w.1 q
      refine z_op (ck_at dt_in 8 rfl) rfl (o_const _) ?_
      exact z_retZ (ck_at dt_in 9 rfl) rt_in (by decide) w
    · intro q; have w := w.2 q
      refine z_op (ck_at dt_in 6 rfl) rfl (o_const _) ?_
      refine z_goto (t := 15) (ck_at dt_in 7 rfl) rfl ?_
      exact z_retZ (ck_at dt_in 9 rfl) rt_in (by decide) w
/-! feed(IIIII)I -/
def t_feed : List (Nat × Instr × Nat) := [(0, .aload_n 0, 1), (1, .getfield 159, 3), (4, .bipush 20, 2), (6, .iadd, 1), (7, .sipush 1200, 3), (10, .if_icmp .le 9, 3), (13, .aload_n 0, 1), (14, .iconst 1, 1), (15, .invokevirtual 162, 3), (18, .ireturn, 1), (19, .aload_n 0, 1), (20, .iconst 0, 1), (21, .putfield 156, 3), (24, .aload_n 0, 1), (25, .iload_n 1, 1), (26, .invokevirtual 166, 3), (29, .aload_n 0, 1), (30, .iload_n 2, 1), (31, .invokevirtual 166, 3), (34, .aload_n 0, 1), (35, .iload_n 3, 1), (36, .invokevirtual 166, 3), (39, .aload_n 0, 1), (40, .iload 4, 2), (42, .invokevirtual 166, 3), (45, .aload_n 0, 1), (46, .iload 5, 2), (48, .invokevirtual 166, 3), (51, .aload_n 0, 1), (52, .getfield 159, 3), (55, .ireturn, 1)]
set_option maxRecDepth 100000 in
theorem dt_feed : q_ck k_feed t_feed = true := by decide +kernel
def r_feed_51 (m : Nat) (h0 : qH) (d : Nat) (B : qB) (Q : qO → qB → Prop) : Prop := Q (.inl (some (iv (B 2 0)))) B
theorem r_feed_51_ok {m : Nat} {h0 : qH} {d : Nat} {B : qB} {Q : qO → qB → Prop} (hm : m + 100 < 1000000000) (w : r_feed_51 m h0 d B Q) : qZ m h0 (d + 1) k_feed 51 [some (.ref m), none, none, none, none, none] [] B Q := by
  unfold r_feed_51 at w
  refine z_ldk (ok := q_isA) (n := 0) (ck_at dt_feed 28 rfl) rfl rfl (fun _ => rfl) rfl rfl ?_
  refine z_getI (j := 2) (ck_at dt_feed 29 rfl) own_feed (mf_at 48 rfl) (by decide) rfl ?_
  exact z_retI (ck_at dt_feed 30 rfl) rt_feed w
def r_feed_45 (m : Nat) (h0 : qH) (d : Nat) (x5 : Int) (B : qB) (Q : qO → qB → Prop) : Prop := qZ m h0 d k_four 0 [some (.ref m), some (iv x5), none] [] B (fun o B' => o = .inl none ∧ r_feed_51 m h0 d B' Q)
theorem r_feed_45_ok {m : Nat} {h0 : qH} {d : Nat} {x5 : Int} {B : qB} {Q : qO → qB → Prop} (hm : m + 100 < 1000000000) (w : r_feed_45 m h0 d x5 B Q) : qZ m h0 (d + 1) k_feed 45 [some (.ref m), none, none, none, none, some (iv x5)] [] B Q := by
  unfold r_feed_45 at w
  refine z_ldk (ok := q_isA) (n := 0) (ck_at dt_feed 25 rfl) rfl rfl (fun _ => rfl) rfl rfl ?_
  refine z_ldk (ok := q_isI) (n := 5) (ck_at dt_feed 26 rfl) rfl rfl (fun _ => rfl) rfl rfl ?_
  refine z_virt (k' := k_four) (n := 1) (as := [iv x5]) (r := []) (ck_at dt_feed 27 rfl) own_feed (mm_at 1 rfl) vk_four rfl nl_four rfl rfl rfl rfl ?_
  exact w.mono (Nat.le_refl _) (fun o B' ⟨ho, w⟩ => ⟨none, ho, z_weak ⟨rfl, trivial⟩ (r_feed_51_ok hm w)⟩)
def r_feed_39 (m : Nat) (h0 : qH) (d : Nat) (x4 x5 : Int) (B : qB) (Q : qO → qB → Prop) : Prop := qZ m h0 d k_four 0 [some (.ref m), some (iv x4), none] [] B (fun o B' => o = .inl none ∧ r_feed_45 m h0 d x5 B' Q)
theorem r_feed_39_ok {m : Nat} {h0 : qH} {d : Nat} {x4 x5 : Int} {B : qB} {Q : qO → qB → Prop} (hm : m + 100 < 1000000000) (w : r_feed_39 m h0 d x4 x5 B Q) : qZ m h0 (d + 1) k_feed 39 [some (.ref m), none, none, none, some (iv x4), some (iv x5)] [] B Q := by
  unfold r_feed_39 at w
  refine z_ldk (ok := q_isA) (n := 0) (ck_at dt_feed 22 rfl) rfl rfl (fun _ => rfl) rfl rfl ?_
  refine z_ldk (ok := q_isI) (n := 4) (ck_at dt_feed 23 rfl) rfl rfl (fun _ => rfl) rfl rfl ?_
  refine z_virt (k' := k_four) (n := 1) (as := [iv x4]) (r := []) (ck_at dt_feed 24 rfl) own_feed (mm_at 1 rfl) vk_four rfl nl_four rfl rfl rfl rfl ?_
  exact w.mono (Nat.le_refl _) (fun o B' ⟨ho, w⟩ => ⟨none, ho, z_weak ⟨rfl, ⟨rfl, trivial⟩⟩ (r_feed_45_ok hm w)⟩)
def r_feed_34 (m : Nat) (h0 : qH) (d : Nat) (x3 x4 x5 : Int) (B : qB) (Q : qO → qB → Prop) : Prop := qZ m h0 d k_four 0 [some (.ref m), some (iv x3), none] [] B (fun o B' => o = .inl none ∧ r_feed_39 m h0 d x4 x5 B' Q)
theorem r_feed_34_ok {m : Nat} {h0 : qH} {d : Nat} {x3 x4 x5 : Int} {B : qB} {Q : qO → qB → Prop} (hm : m + 100 < 1000000000) (w : r_feed_34 m h0 d x3 x4 x5 B Q) : qZ m h0 (d + 1) k_feed 34 [some (.ref m), none, none, some (iv x3), some (iv x4), some (iv x5)] [] B Q := by
  unfold r_feed_34 at w
  refine z_ldk (ok := q_isA) (n := 0) (ck_at dt_feed 19 rfl) rfl rfl (fun _ => rfl) rfl rfl ?_
  refine z_ldk (ok := q_isI) (n := 3) (ck_at dt_feed 20 rfl) rfl rfl (fun _ => rfl) rfl rfl ?_
  refine z_virt (k' := k_four) (n := 1) (as := [iv x3]) (r := []) (ck_at dt_feed 21 rfl) own_feed (mm_at 1 rfl) vk_four rfl nl_four rfl rfl rfl rfl ?_
  exact w.mono (Nat.le_refl _) (fun o B' ⟨ho, w⟩ => ⟨none, ho, z_weak ⟨rfl, ⟨rfl, ⟨rfl, trivial⟩⟩⟩ (r_feed_39_ok hm w)⟩)
def r_feed_29 (m : Nat) (h0 : qH) (d : Nat) (x2 x3 x4 x5 : Int) (B : qB) (Q : qO → qB → Prop) : Prop := qZ m h0 d k_four 0 [some (.ref m), some (iv x2), none] [] B (fun o B' => o = .inl none ∧ r_feed_34 m h0 d x3 x4 x5 B' Q)
theorem r_feed_29_ok {m : Nat} {h0 : qH} {d : Nat} {x2 x3 x4 x5 : Int} {B : qB} {Q : qO → qB → Prop} (hm : m + 100 < 1000000000) (w : r_feed_29 m h0 d x2 x3 x4 x5 B Q) : qZ m h0 (d + 1) k_feed 29 [some (.ref m), none, some (iv x2), some (iv x3), some (iv x4), some (iv x5)] [] B Q := by
  unfold r_feed_29 at w
  refine z_ldk (ok := q_isA) (n := 0) (ck_at dt_feed 16 rfl) rfl rfl (fun _ => rfl) rfl rfl ?_
  refine z_ldk (ok := q_isI) (n := 2) (ck_at dt_feed 17 rfl) rfl rfl (fun _ => rfl) rfl rfl ?_
  refine z_virt (k' := k_four) (n := 1) (as := [iv x2]) (r := []) (ck_at dt_feed 18 rfl) own_feed (mm_at 1 rfl) vk_four rfl nl_four rfl rfl rfl rfl ?_
  exact w.mono (Nat.le_refl _) (fun o B' ⟨ho, w⟩ => ⟨none, ho, z_weak ⟨rfl, ⟨rfl, ⟨rfl, ⟨rfl, trivial⟩⟩⟩⟩ (r_feed_34_ok hm w)⟩)
def r_feed_18 (m : Nat) (h0 : qH) (d : Nat) (s0 : Int) (B : qB) (Q : qO → qB → Prop) : Prop := Q (.inl (some (iv s0))) B
theorem r_feed_18_ok {m : Nat} {h0 : qH} {d : Nat} {s0 : Int} {B : qB} {Q : qO → qB → Prop} (hm : m + 100 < 1000000000) (w : r_feed_18 m h0 d s0 B Q) : qZ m h0 (d + 1) k_feed 18 [none, none, none, none, none, none] [iv s0] B Q := by
  unfold r_feed_18 at w
  exact z_retI (ck_at dt_feed 9 rfl) rt_feed w
def r_feed_0 (m : Nat) (h0 : qH) (d : Nat) (x1 x2 x3 x4 x5 : Int) (B : qB) (Q : qO → qB → Prop) : Prop := R32 ((B 2 0) + 20) ∧ ((B 2 0) + 20 ≤ 1200 → qZ m h0 d k_four 0 [some (.ref m), some (iv x1), none] [] (u2 B 0 0 0) (fun o B' => o = .inl none ∧ r_feed_29 m h0 d x2 x3 x4 x5 B' Q)) ∧ ((B 2 0) + 20 > 1200 → qZ m h0 d k_refuse 0 [some (.ref m), some (iv 1)] [] B (fun o B' => ∃ v : Int, o = .inl (some (iv v)) ∧ r_feed_18 m h0 d v B' Q))
theorem r_feed_0_ok {m : Nat} {h0 : qH} {d : Nat} {x1 x2 x3 x4 x5 : Int} {B : qB} {Q : qO → qB → Prop} (hm : m + 100 < 1000000000) (w : r_feed_0 m h0 d x1 x2 x3 x4 x5 B Q) : qZ m h0 (d + 1) k_feed 0 [some (.ref m), some (iv x1), some (iv x2), some (iv x3), some (iv x4), some (iv x5)] [] B Q := by
  unfold r_feed_0 at w
  obtain ⟨p1, w⟩ := w
  refine z_ldk (ok := q_isA) (n := 0) (ck_at dt_feed 0 rfl) rfl rfl (fun _ => rfl) rfl rfl ?_
  refine z_getI (j := 2) (ck_at dt_feed 1 rfl) own_feed (mf_at 48 rfl) (by decide) rfl ?_
  refine z_op (ck_at dt_feed 2 rfl) rfl (o_bipush _ (by decide)) ?_
  refine z_op (ck_at dt_feed 3 rfl) rfl o_iadd ?_
  refine z_op (ck_at dt_feed 4 rfl) rfl (o_sipush _ (by decide)) ?_
  refine z_icmp (t := 19) (ck_at dt_feed 5 rfl) rfl p1 ⟨by decide, by decide⟩ ?_ ?_
  · intro q; have w := w.1 q
    refine z_ldk (ok := q_isA) (n := 0) (ck_at dt_feed 10 rfl) rfl rfl (fun _ => rfl) rfl rfl ?_
    refine z_op (ck_at dt_feed 11 rfl) rfl (o_const _) ?_
    refine z_putI (j := 0) hm (ck_at dt_feed 12 rfl) own_feed (mf_at 47 rfl) (by decide) rfl rfl rfl ?_
    refine z_ldk (ok := q_isA) (n := 0) (ck_at dt_feed 13 rfl) rfl rfl (fun _ => rfl) rfl rfl ?_
    refine z_ldk (ok := q_isI) (n := 1) (ck_at dt_feed 14 rfl) rfl rfl (fun _ => rfl) rfl rfl ?_
    refine z_virt (k' := k_four) (n := 1) (as := [iv x1]) (r := []) (ck_at dt_feed 15 rfl) own_feed (mm_at 1 rfl) vk_four rfl nl_four rfl rfl rfl rfl ?_
    exact w.mono (Nat.le_refl _) (fun o B' ⟨ho, w⟩ => ⟨none, ho, z_weak ⟨rfl, ⟨rfl, ⟨rfl, ⟨rfl, ⟨rfl, trivial⟩⟩⟩⟩⟩ (r_feed_29_ok hm w)⟩)
  · intro q; have w := w.2 q
    refine z_ldk (ok := q_isA) (n := 0) (ck_at dt_feed 6 rfl) rfl rfl (fun _ => rfl) rfl rfl ?_
    refine z_op (ck_at dt_feed 7 rfl) rfl (o_const _) ?_
    refine z_virt (k' := k_refuse) (n := 0) (as := [iv 1]) (r := []) (ck_at dt_feed 8 rfl) own_feed (mm_at 0 rfl) vk_refuse rfl nl_refuse rfl rfl rfl rfl ?_
    exact w.mono (Nat.le_refl _) (fun o B' ⟨v, ho, w⟩ => ⟨some (iv v), ho, z_weak trivial (r_feed_18_ok hm w)⟩)
/-! four(I)V -/
def t_four : List (Nat × Instr × Nat) := [(0, .bipush 24, 2), (2, .istore_n 2, 1), (3, .iload_n 2, 1), (4, .ifCond .lt 35, 3), (7, .aload_n 0, 1), (8, .getfield 7, 3), (11, .aload_n 0, 1), (12, .getfield 159, 3), (15, .iload_n 1, 1), (16, .iload_n 2, 1), (17, .ishr, 1), (18, .sipush 255, 3), (21, .iand, 1), (22, .iastore, 1), (23, .aload_n 0, 1), (24, .dup, 1), (25, .getfield 159, 3), (28, .iconst 1, 1), (29, .iadd, 1), (30, .putfield 159, 3), (33, .iinc 2 (-8), 3), (36, .goto (-33), 3), (39, .return_, 1)]
set_option maxRecDepth 100000 in
theorem dt_four : q_ck k_four t_four = true := by decide +kernel
def r_four_3 (m : Nat) (h0 : qH) (d : Nat) (x1 x2 : Int) (B : qB) (Q : qO → qB → Prop) : Prop := R32 x2 ∧ (x2 < 0 → Q (.inl none) B) ∧ (x2 ≥ 0 → 0 ≤ B 2 0 ∧ B 2 0 < 1200 ∧ qZ m h0 (d + 1) k_four 3 [some (.ref m), some (iv x1), some (iv (x2 + (-8)))] [] (u2 (u2 B 1 (B 2 0) (iAnd (iShr x1 x2) 255)) 2 0 ((B 2 0) + 1)) Q)
theorem r_four_3_ok {m : Nat} {h0 : qH} {d : Nat} {x1 x2 : Int} {B : qB} {Q : qO → qB → Prop} (hm : m + 100 < 1000000000) (w : r_four_3 m h0 d x1 x2 B Q) : qZ m h0 (d + 1) k_four 3 [some (.ref m), some (iv x1), some (iv x2)] [] B Q := by
  unfold r_four_3 at w
  obtain ⟨p1, w⟩ := w
  refine z_ldk (ok := q_isI) (n := 2) (ck_at dt_four 2 rfl) rfl rfl (fun _ => rfl) rfl rfl ?_
  refine z_ifz (t := 39) (ck_at dt_four 3 rfl) rfl p1 ?_ ?_
  · intro q; have w := w.1 q
    exact z_ret0 (ck_at dt_four 22 rfl) rt_four w
  · intro q; have w := w.2 q
    obtain ⟨p2, p3, w⟩ := w
    refine z_ldk (ok := q_isA) (n := 0) (ck_at dt_four 4 rfl) rfl rfl (fun _ => rfl) rfl rfl ?_
    refine z_getR (j := 1) (a := 0) (ck_at dt_four 5 rfl) own_four (mf_at 0 rfl) (by decide) rfl rfl ?_
    refine z_ldk (ok := q_isA) (n := 0) (ck_at dt_four 6 rfl) rfl rfl (fun _ => rfl) rfl rfl ?_
    refine z_getI (j := 2) (ck_at dt_four 7 rfl) own_four (mf_at 48 rfl) (by decide) rfl ?_
    refine z_ldk (ok := q_isI) (n := 1) (ck_at dt_four 8 rfl) rfl rfl (fun _ => rfl) rfl rfl ?_
    refine z_ldk (ok := q_isI) (n := 2) (ck_at dt_four 9 rfl) rfl rfl (fun _ => rfl) rfl rfl ?_
    refine z_op (ck_at dt_four 10 rfl) rfl o_ishr ?_
    refine z_op (ck_at dt_four 11 rfl) rfl (o_sipush _ (by decide)) ?_
    refine z_op (ck_at dt_four 12 rfl) rfl o_iand ?_
    refine z_iast (j := 1) (n := 1200) hm (ck_at dt_four 13 rfl) rfl rfl rfl p2 p3 ?_
    refine z_ldk (ok := q_isA) (n := 0) (ck_at dt_four 14 rfl) rfl rfl (fun _ => rfl) rfl rfl ?_
    refine z_op (ck_at dt_four 15 rfl) rfl rfl ?_
    refine z_getI (j := 2) (ck_at dt_four 16 rfl) own_four (mf_at 48 rfl) (by decide) rfl ?_
    refine z_op (ck_at dt_four 17 rfl) rfl (o_const _) ?_
    refine z_op (ck_at dt_four 18 rfl) rfl o_iadd ?_
    refine z_putI (j := 2) hm (ck_at dt_four 19 rfl) own_four (mf_at 48 rfl) (by decide) rfl rfl rfl ?_
    refine z_iinc (n := 2) (L' := [some (.ref m), some (iv x1), some (iv (x2 + (-8)))]) (ck_at dt_four 20 rfl) rfl nl_four (by decide) rfl rfl ?_
    refine z_goto (t := 3) (ck_at dt_four 21 rfl) rfl ?_
    exact z_weak ⟨rfl, ⟨rfl, ⟨rfl, trivial⟩⟩⟩ (w)
def r_four_0 (m : Nat) (h0 : qH) (d : Nat) (x1 : Int) (B : qB) (Q : qO → qB → Prop) : Prop := qZ m h0 (d + 1) k_four 3 [some (.ref m), some (iv x1), some (iv 24)] [] B Q
theorem r_four_0_ok {m : Nat} {h0 : qH} {d : Nat} {x1 : Int} {B : qB} {Q : qO → qB → Prop} (hm : m + 100 < 1000000000) (w : r_four_0 m h0 d x1 B Q) : qZ m h0 (d + 1) k_four 0 [some (.ref m), some (iv x1), none] [] B Q := by
  unfold r_four_0 at w
  refine z_op (ck_at dt_four 0 rfl) rfl (o_bipush _ (by decide)) ?_
  refine z_st1 (ok := q_isI) (n := 2) (L' := [some (.ref m), some (iv x1), some (iv 24)]) (ck_at dt_four 1 rfl) rfl (fun _ => rfl) (fun _ _ => rfl) rfl nl_four (by decide) rfl rfl ?_
  exact z_weak ⟨rfl, ⟨rfl, ⟨rfl, trivial⟩⟩⟩ (w)
/-! end(I)I -/
def t_end : List (Nat × Instr × Nat) := [(0, .iload_n 1, 1), (1, .iconst 0, 1), (2, .aload_n 0, 1), (3, .getfield 159, 3), (6, .invokestatic 170, 3), (9, .ifCond .ne 9, 3), (12, .aload_n 0, 1), (13, .iconst 1, 1), (14, .invokevirtual 162, 3), (17, .ireturn, 1), (18, .aload_n 0, 1), (19, .iconst 0, 1), (20, .putfield 156, 3), (23, .aload_n 0, 1), (24, .iload_n 1, 1), (25, .putfield 159, 3), (28, .iload_n 1, 1), (29, .ireturn, 1)]
set_option maxRecDepth 100000 in
theorem dt_end : q_ck k_end t_end = true := by decide +kernel
def r_end_17 (m : Nat) (h0 : qH) (d : Nat) (s0 : Int) (B : qB) (Q : qO → qB → Prop) : Prop := Q (.inl (some (iv s0))) B
theorem r_end_17_ok {m : Nat} {h0 : qH} {d : Nat} {s0 : Int} {B : qB} {Q : qO → qB → Prop} (hm : m + 100 < 1000000000) (w : r_end_17 m h0 d s0 B Q) : qZ m h0 (d + 1) k_end 17 [none, none] [iv s0] B Q := by
  unfold r_end_17 at w
  exact z_retI (ck_at dt_end 9 rfl) rt_end w
def r_end_9 (m : Nat) (h0 : qH) (d : Nat) (x1 s0 : Int) (B : qB) (Q : qO → qB → Prop) : Prop := R32 s0 ∧ (¬ s0 = 0 → Q (.inl (some (iv x1))) (u2 (u2 B 0 0 0) 2 0 x1)) ∧ (s0 = 0 → qZ m h0 d k_refuse 0 [some (.ref m), some (iv 1)] [] B (fun o B' => ∃ v : Int, o = .inl (some (iv v)) ∧ r_end_17 m h0 d v B' Q))
theorem r_end_9_ok {m : Nat} {h0 : qH} {d : Nat} {x1 s0 : Int} {B : qB} {Q : qO → qB → Prop} (hm : m + 100 < 1000000000) (w : r_end_9 m h0 d x1 s0 B Q) : qZ m h0 (d + 1) k_end 9 [some (.ref m), some (iv x1)] [iv s0] B Q := by
  unfold r_end_9 at w
  obtain ⟨p1, w⟩ := w
  refine z_ifz (t := 18) (ck_at dt_end 5 rfl) rfl p1 ?_ ?_
  · intro q; have w := w.1 q
    refine z_ldk (ok := q_isA) (n := 0) (ck_at dt_end 10 rfl) rfl rfl (fun _ => rfl) rfl rfl ?_
    refine z_op (ck_at dt_end 11 rfl) rfl (o_const _) ?_
    refine z_putI (j := 0) hm (ck_at dt_end 12 rfl) own_end (mf_at 47 rfl) (by decide) rfl rfl rfl ?_
    refine z_ldk (ok := q_isA) (n := 0) (ck_at dt_end 13 rfl) rfl rfl (fun _ => rfl) rfl rfl ?_
    refine z_ldk (ok := q_isI) (n := 1) (ck_at dt_end 14 rfl) rfl rfl (fun _ => rfl) rfl rfl ?_
    refine z_putI (j := 2) hm (ck_at dt_end 15 rfl) own_end (mf_at 48 rfl) (by decide) rfl rfl rfl ?_
    refine z_ldk (ok := q_isI) (n := 1) (ck_at dt_end 16 rfl) rfl rfl (fun _ => rfl) rfl rfl ?_
    exact z_retI (ck_at dt_end 17 rfl) rt_end w
  · intro q; have w := w.2 q
    refine z_ldk (ok := q_isA) (n := 0) (ck_at dt_end 6 rfl) rfl rfl (fun _ => rfl) rfl rfl ?_
    refine z_op (ck_at dt_end 7 rfl) rfl (o_const _) ?_
    refine z_virt (k' := k_refuse) (n := 0) (as := [iv 1]) (r := []) (ck_at dt_end 8 rfl) own_end (mm_at 0 rfl) vk_refuse rfl nl_refuse rfl rfl rfl rfl ?_
    exact w.mono (Nat.le_refl _) (fun o B' ⟨v, ho, w⟩ => ⟨some (iv v), ho, z_weak trivial (r_end_17_ok hm w)⟩)
def r_end_0 (m : Nat) (h0 : qH) (d : Nat) (x1 : Int) (B : qB) (Q : qO → qB → Prop) : Prop := qZ m h0 d k_in 0 [some (iv x1), some (iv 0), some (iv (B 2 0))] [] B (fun o B' => ∃ v : Int, o = .inl (some (iv v)) ∧ r_end_9 m h0 d x1 v B' Q)
theorem r_end_0_ok {m : Nat} {h0 : qH} {d : Nat} {x1 : Int} {B : qB} {Q : qO → qB → Prop} (hm : m + 100 < 1000000000) (w : r_end_0 m h0 d x1 B Q) : qZ m h0 (d + 1) k_end 0 [some (.ref m), some (iv x1)] [] B Q := by
  unfold r_end_0 at w
  refine z_ldk (ok := q_isI) (n := 1) (ck_at dt_end 0 rfl) rfl rfl (fun _ => rfl) rfl rfl ?_
  refine z_op (ck_at dt_end 1 rfl) rfl (o_const _) ?_
  refine z_ldk (ok := q_isA) (n := 0) (ck_at dt_end 2 rfl) rfl rfl (fun _ => rfl) rfl rfl ?_
  refine z_getI (j := 2) (ck_at dt_end 3 rfl) own_end (mf_at 48 rfl) (by decide) rfl ?_
  refine z_stat (k' := k_in) (n := 0) (as := [iv x1, iv 0, iv (B 2 0)]) (r := []) (ck_at dt_end 4 rfl) own_end (mm_at 2 rfl) (ms_at 0 rfl) vk_in rfl nl_in rfl rfl rfl rfl ?_
  exact w.mono (Nat.le_refl _) (fun o B' ⟨v, ho, w⟩ => ⟨some (iv v), ho, z_weak ⟨rfl, ⟨rfl, trivial⟩⟩ (r_end_9_ok hm w)⟩)
/-! refuse(I)I -/
def t_refuse : List (Nat × Instr × Nat) := [(0, .aload_n 0, 1), (1, .iload_n 1, 1), (2, .putfield 156, 3), (5, .iconst 0, 1), (6, .ireturn, 1)]
set_option maxRecDepth 100000 in
theorem dt_refuse : q_ck k_refuse t_refuse = true := by decide +kernel
def r_refuse_0 (m : Nat) (h0 : qH) (d : Nat) (x1 : Int) (B : qB) (Q : qO → qB → Prop) : Prop := Q (.inl (some (iv 0))) (u2 B 0 0 x1)
theorem r_refuse_0_ok {m : Nat} {h0 : qH} {d : Nat} {x1 : Int} {B : qB} {Q : qO → qB → Prop} (hm : m + 100 < 1000000000) (w : r_refuse_0 m h0 d x1 B Q) : qZ m h0 (d + 1) k_refuse 0 [some (.ref m), some (iv x1)] [] B Q := by
  unfold r_refuse_0 at w
  refine z_ldk (ok := q_isA) (n := 0) (ck_at dt_refuse 0 rfl) rfl rfl (fun _ => rfl) rfl rfl ?_
  refine z_ldk (ok := q_isI) (n := 1) (ck_at dt_refuse 1 rfl) rfl rfl (fun _ => rfl) rfl rfl ?_
  refine z_putI (j := 0) hm (ck_at dt_refuse 2 rfl) own_refuse (mf_at 47 rfl) (by decide) rfl rfl rfl ?_
  refine z_op (ck_at dt_refuse 3 rfl) rfl (o_const _) ?_
  exact z_retI (ck_at dt_refuse 4 rfl) rt_refuse w
/-! thrown()I -/
def t_thrown : List (Nat × Instr × Nat) := [(0, .aload_n 0, 1), (1, .getfield 156, 3), (4, .ireturn, 1)]
set_option maxRecDepth 100000 in
theorem dt_thrown : q_ck k_thrown t_thrown = true := by decide +kernel
def r_thrown_0 (m : Nat) (h0 : qH) (d : Nat) (B : qB) (Q : qO → qB → Prop) : Prop := Q (.inl (some (iv (B 0 0)))) B
theorem r_thrown_0_ok {m : Nat} {h0 : qH} {d : Nat} {B : qB} {Q : qO → qB → Prop} (hm : m + 100 < 1000000000) (w : r_thrown_0 m h0 d B Q) : qZ m h0 (d + 1) k_thrown 0 [some (.ref m)] [] B Q := by
  unfold r_thrown_0 at w
  refine z_ldk (ok := q_isA) (n := 0) (ck_at dt_thrown 0 rfl) rfl rfl (fun _ => rfl) rfl rfl ?_
  refine z_getI (j := 0) (ck_at dt_thrown 1 rfl) own_thrown (mf_at 47 rfl) (by decide) rfl ?_
  exact z_retI (ck_at dt_thrown 2 rfl) rt_thrown w
