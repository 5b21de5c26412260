/-! PatternTrier$Reader.addClass(IZ)I -/
def t_Re_addClass : List (Nat × Instr × Nat) := [(0, .aload_n 0, 1), (1, .getfield 9, 3), (4, .invokevirtual 121, 3), (7, .invokevirtual 125, 3), (10, .istore_n 3, 1), (11, .aload_n 0, 1), (12, .getfield 9, 3), (15, .invokevirtual 121, 3), (18, .iload_n 3, 1), (19, .iload_n 1, 1), (20, .iload_n 2, 1), (21, .invokevirtual 130, 3), (24, .aload_n 0, 1), (25, .getfield 9, 3), (28, .iconst 2, 1), (29, .iload_n 3, 1), (30, .iconst 0, 1), (31, .iconst 1, 1), (32, .invokevirtual 76, 3), (35, .ireturn, 1)]
set_option maxRecDepth 100000 in
theorem dt_Re_addClass : q_ck n_Re_addClass t_Re_addClass = true := by decide +kernel
def c_Re_addClass_24 (h1 : qH) (d : Nat) (x3 : Int) (B : qB) (Q : qO → qB → Prop) : Prop := 1 ≤ B 90 8 ∧ B 90 8 ≤ 408 ∧ Q (.inl (some (iv (adV B)))) (adT B 2 x3 0 1)
theorem c_Re_addClass_24_ok {h1 : qH} {d : Nat} {x3 : Int} {B : qB} {Q : qO → qB → Prop} (hd : 2 ≤ d) (hS : SH B) (w : c_Re_addClass_24 h1 d x3 B Q) : qY h1 (d + 1) n_Re_addClass 24 [some (.ref 100), none, none, some (iv x3)] [] B Q := by
  unfold c_Re_addClass_24 at w
  obtain ⟨p1, p2, w⟩ := w
  refine y_ldk (ok := q_isA) (n := 0) (ck_at dt_Re_addClass 12 rfl) rfl rfl (fun _ => rfl) rfl rfl ?_
  refine y_getF (r := 90) (K := 6) (j := 0) (a := 100) (ck_at dt_Re_addClass 13 rfl) own_Re_addClass (cf_at 22 rfl) rfl rfl ⟨(SH.o hS ⟨by decide, by decide, by decide⟩), ?_⟩
  refine y_op (ck_at dt_Re_addClass 14 rfl) rfl (o_const _) ?_
  refine y_ldk (ok := q_isI) (n := 3) (ck_at dt_Re_addClass 15 rfl) rfl rfl (fun _ => rfl) rfl rfl ?_
  refine y_op (ck_at dt_Re_addClass 16 rfl) rfl (o_const _) ?_
  refine y_op (ck_at dt_Re_addClass 17 rfl) rfl (o_const _) ?_
  refine y_virtP (k' := n_Tr_add) (n := 1) (as := [iv 2, iv x3, iv 0, iv 1]) (r := []) (ck_at dt_Re_addClass 18 rfl) own_Re_addClass (cm_at 49 rfl) vk_Tr_add rfl nl_Tr_add rfl rfl rfl rfl (SH.o hS ⟨by decide, by decide, by decide⟩) (Y_Tr_add (by omega) hS p1 p2 ⟨by decide, by decide⟩ ⟨rfl, rfl⟩) ?_
  have hS3 : SH (adT B 2 x3 0 1) := S_Tr_add hS p1 p2 ⟨by decide, by decide⟩
  exact y_retI (ck_at dt_Re_addClass 19 rfl) rt_Re_addClass w
def c_Re_addClass_10 (h1 : qH) (d : Nat) (x1 : Int) (x2 : Int) (s0 : Int) (B : qB) (Q : qO → qB → Prop) : Prop := qY h1 d n_Se_addClass 0 [some (.ref 98), some (iv s0), some (iv x1), some (iv x2), none, none, none] [] B (fun o B' => o = .inl none ∧ SH B' ∧ c_Re_addClass_24 h1 d s0 B' Q)
theorem c_Re_addClass_10_ok {h1 : qH} {d : Nat} {x1 : Int} {x2 : Int} {s0 : Int} {B : qB} {Q : qO → qB → Prop} (hd : 2 ≤ d) (hS : SH B) (w : c_Re_addClass_10 h1 d x1 x2 s0 B Q) : qY h1 (d + 1) n_Re_addClass 10 [some (.ref 100), some (iv x1), some (iv x2), none] [iv s0] B Q := by
  unfold c_Re_addClass_10 at w
  refine y_st1 (ok := q_isI) (n := 3) (L' := [some (.ref 100), some (iv x1), some (iv x2), some (iv s0)]) (ck_at dt_Re_addClass 4 rfl) rfl (fun _ => rfl) (fun _ _ => rfl) rfl nl_Re_addClass (by decide) rfl rfl ?_
  refine y_ldk (ok := q_isA) (n := 0) (ck_at dt_Re_addClass 5 rfl) rfl rfl (fun _ => rfl) rfl rfl ?_
  refine y_getF (r := 90) (K := 6) (j := 0) (a := 100) (ck_at dt_Re_addClass 6 rfl) own_Re_addClass (cf_at 22 rfl) rfl rfl ⟨(SH.o hS ⟨by decide, by decide, by decide⟩), ?_⟩
  refine y_virtP (k' := n_Tr_sets) (n := 0) (as := []) (r := []) (ck_at dt_Re_addClass 7 rfl) own_Re_addClass (cm_at 63 rfl) vk_Tr_sets rfl nl_Tr_sets rfl rfl rfl rfl (SH.o hS ⟨by decide, by decide, by decide⟩) (Y_Tr_sets (by omega) hS ⟨rfl, rfl⟩) ?_
  refine y_ldk (ok := q_isI) (n := 3) (ck_at dt_Re_addClass 8 rfl) rfl rfl (fun _ => rfl) rfl rfl ?_
  refine y_ldk (ok := q_isI) (n := 1) (ck_at dt_Re_addClass 9 rfl) rfl rfl (fun _ => rfl) rfl rfl ?_
  refine y_ldk (ok := q_isI) (n := 2) (ck_at dt_Re_addClass 10 rfl) rfl rfl (fun _ => rfl) rfl rfl ?_
  refine y_virt (k' := n_Se_addClass) (n := 3) (as := [iv s0, iv x1, iv x2]) (r := []) (ck_at dt_Re_addClass 11 rfl) own_Re_addClass (cm_at 65 rfl) vk_Se_addClass rfl nl_Se_addClass rfl rfl rfl rfl ⟨(SH.o hS ⟨by decide, by decide, by decide⟩), ?_⟩
  exact w.mono (Nat.le_refl _) (fun o B' ⟨ho, hS', w⟩ => Or.inl ⟨none, ho, y_wk (c_Re_addClass_24_ok (by omega) hS' w) ⟨rfl, ⟨rfl, trivial⟩⟩⟩)
def c_Re_addClass_0 (h1 : qH) (d : Nat) (x1 : Int) (x2 : Int) (B : qB) (Q : qO → qB → Prop) : Prop := qY h1 d n_Se_open 0 [some (.ref 98), none, none] [] B (fun o B' => ∃ v : Int, o = .inl (some (iv v)) ∧ SH B' ∧ c_Re_addClass_10 h1 d x1 x2 v B' Q)
theorem c_Re_addClass_0_ok {h1 : qH} {d : Nat} {x1 : Int} {x2 : Int} {B : qB} {Q : qO → qB → Prop} (hd : 2 ≤ d) (hS : SH B) (w : c_Re_addClass_0 h1 d x1 x2 B Q) : qY h1 (d + 1) n_Re_addClass 0 [some (.ref 100), some (iv x1), some (iv x2), none] [] B Q := by
  unfold c_Re_addClass_0 at w
  refine y_ldk (ok := q_isA) (n := 0) (ck_at dt_Re_addClass 0 rfl) rfl rfl (fun _ => rfl) rfl rfl ?_
  refine y_getF (r := 90) (K := 6) (j := 0) (a := 100) (ck_at dt_Re_addClass 1 rfl) own_Re_addClass (cf_at 22 rfl) rfl rfl ⟨(SH.o hS ⟨by decide, by decide, by decide⟩), ?_⟩
  refine y_virtP (k' := n_Tr_sets) (n := 0) (as := []) (r := []) (ck_at dt_Re_addClass 2 rfl) own_Re_addClass (cm_at 63 rfl) vk_Tr_sets rfl nl_Tr_sets rfl rfl rfl rfl (SH.o hS ⟨by decide, by decide, by decide⟩) (Y_Tr_sets (by omega) hS ⟨rfl, rfl⟩) ?_
  refine y_virt (k' := n_Se_open) (n := 2) (as := []) (r := []) (ck_at dt_Re_addClass 3 rfl) own_Re_addClass (cm_at 64 rfl) vk_Se_open rfl nl_Se_open rfl rfl rfl rfl ⟨(SH.o hS ⟨by decide, by decide, by decide⟩), ?_⟩
  exact w.mono (Nat.le_refl _) (fun o B' ⟨v, ho, hS', w⟩ => Or.inl ⟨some (iv v), ho, y_wk (c_Re_addClass_10_ok (by omega) hS' w) ⟨rfl, ⟨rfl, ⟨rfl, trivial⟩⟩⟩⟩)
/-! PatternTrier$Reader.readEscape()I -/
def t_Re_readEscape : List (Nat × Instr × Nat) := [(0, .aload_n 0, 1), (1, .iconst 1, 1), (2, .invokevirtual 47, 3), (5, .istore_n 1, 1), (6, .iload_n 1, 1), (7, .ifCond .ge 15, 3), (10, .aload_n 0, 1), (11, .aload_n 0, 1), (12, .getfield 28, 3), (15, .iconst 1, 1), (16, .iadd, 1), (17, .invokevirtual 50, 3), (20, .iconst 0, 1), (21, .ireturn, 1), (22, .aload_n 0, 1), (23, .dup, 1), (24, .getfield 28, 3), (27, .iconst 2, 1), (28, .iadd, 1), (29, .putfield 28, 3), (32, .iload_n 1, 1), (33, .bipush 98, 2), (35, .if_icmp .eq 9, 3), (38, .iload_n 1, 1), (39, .bipush 66, 2), (41, .if_icmp .ne 26, 3), (44, .aload_n 0, 1), (45, .getfield 9, 3), (48, .iload_n 1, 1), (49, .bipush 98, 2), (51, .if_icmp .ne 7, 3), (54, .iconst 5, 1), (55, .goto 5, 3), (58, .bipush 6, 2), (60, .iconst 0, 1), (61, .iconst 0, 1), (62, .iconst 1, 1), (63, .invokevirtual 76, 3), (66, .ireturn, 1), (67, .iload_n 1, 1), (68, .invokestatic 112, 3), (71, .istore_n 2, 1), (72, .iload_n 2, 1), (73, .iconst (-1), 1), (74, .if_icmp .eq 20, 3), (77, .aload_n 0, 1), (78, .iload_n 2, 1), (79, .iload_n 1, 1), (80, .bipush 97, 2), (82, .if_icmp .ge 7, 3), (85, .iconst 1, 1), (86, .goto 4, 3), (89, .iconst 0, 1), (90, .invokevirtual 109, 3), (93, .ireturn, 1), (94, .iload_n 1, 1), (95, .invokestatic 115, 3), (98, .ifCond .ne 10, 3), (101, .iload_n 1, 1), (102, .invokestatic 118, 3), (105, .ifCond .eq 13, 3), (108, .aload_n 0, 1), (109, .aload_n 0, 1), (110, .getfield 28, 3), (113, .iconst 1, 1), (114, .isub, 1), (115, .invokevirtual 50, 3), (118, .aload_n 0, 1), (119, .getfield 9, 3), (122, .iconst 1, 1), (123, .iload_n 1, 1), (124, .iconst 0, 1), (125, .iconst 1, 1), (126, .invokevirtual 76, 3), (129, .ireturn, 1)]
set_option maxRecDepth 100000 in
theorem dt_Re_readEscape : q_ck n_Re_readEscape t_Re_readEscape = true := by decide +kernel
def c_Re_readEscape_118 (h1 : qH) (d : Nat) (x1 : Int) (B : qB) (Q : qO → qB → Prop) : Prop := 1 ≤ B 90 8 ∧ B 90 8 ≤ 408 ∧ Q (.inl (some (iv (adV B)))) (adT B 1 x1 0 1)
theorem c_Re_readEscape_118_ok {h1 : qH} {d : Nat} {x1 : Int} {B : qB} {Q : qO → qB → Prop} (hd : 2 ≤ d) (hS : SH B) (w : c_Re_readEscape_118 h1 d x1 B Q) : qY h1 (d + 1) n_Re_readEscape 118 [some (.ref 100), some (iv x1), none] [] B Q := by
  unfold c_Re_readEscape_118 at w
  obtain ⟨p1, p2, w⟩ := w
  refine y_ldk (ok := q_isA) (n := 0) (ck_at dt_Re_readEscape 67 rfl) rfl rfl (fun _ => rfl) rfl rfl ?_
  refine y_getF (r := 90) (K := 6) (j := 0) (a := 100) (ck_at dt_Re_readEscape 68 rfl) own_Re_readEscape (cf_at 22 rfl) rfl rfl ⟨(SH.o hS ⟨by decide, by decide, by decide⟩), ?_⟩
  refine y_op (ck_at dt_Re_readEscape 69 rfl) rfl (o_const _) ?_
  refine y_ldk (ok := q_isI) (n := 1) (ck_at dt_Re_readEscape 70 rfl) rfl rfl (fun _ => rfl) rfl rfl ?_
  refine y_op (ck_at dt_Re_readEscape 71 rfl) rfl (o_const _) ?_
  refine y_op (ck_at dt_Re_readEscape 72 rfl) rfl (o_const _) ?_
  refine y_virtP (k' := n_Tr_add) (n := 1) (as := [iv 1, iv x1, iv 0, iv 1]) (r := []) (ck_at dt_Re_readEscape 73 rfl) own_Re_readEscape (cm_at 49 rfl) vk_Tr_add rfl nl_Tr_add rfl rfl rfl rfl (SH.o hS ⟨by decide, by decide, by decide⟩) (Y_Tr_add (by omega) hS p1 p2 ⟨by decide, by decide⟩ ⟨rfl, rfl⟩) ?_
  have hS3 : SH (adT B 1 x1 0 1) := S_Tr_add hS p1 p2 ⟨by decide, by decide⟩
  exact y_retI (ck_at dt_Re_readEscape 74 rfl) rt_Re_readEscape w
def c_Re_readEscape_108 (h1 : qH) (d : Nat) (x1 : Int) (B : qB) (Q : qO → qB → Prop) : Prop := R32 (B 100 3) ∧ c_Re_readEscape_118 h1 d x1 (brC B ((B 100 2) - 1)) Q
theorem c_Re_readEscape_108_ok {h1 : qH} {d : Nat} {x1 : Int} {B : qB} {Q : qO → qB → Prop} (hd : 2 ≤ d) (hS : SH B) (w : c_Re_readEscape_108 h1 d x1 B Q) : qY h1 (d + 1) n_Re_readEscape 108 [some (.ref 100), some (iv x1), none] [] B Q := by
  unfold c_Re_readEscape_108 at w
  obtain ⟨p1, w⟩ := w
  refine y_ldk (ok := q_isA) (n := 0) (ck_at dt_Re_readEscape 61 rfl) rfl rfl (fun _ => rfl) rfl rfl ?_
  refine y_ldk (ok := q_isA) (n := 0) (ck_at dt_Re_readEscape 62 rfl) rfl rfl (fun _ => rfl) rfl rfl ?_
  refine y_getI (K := 6) (j := 2) (a := 100) (ck_at dt_Re_readEscape 63 rfl) own_Re_readEscape (cf_at 25 rfl) rfl rfl rfl ⟨(SH.o hS ⟨by decide, by decide, by decide⟩), ?_⟩
  refine y_op (ck_at dt_Re_readEscape 64 rfl) rfl (o_const _) ?_
  refine y_op (ck_at dt_Re_readEscape 65 rfl) rfl o_isub ?_
  refine y_virtV (k' := n_Re_breakAt) (n := 0) (as := [iv ((B 100 2) - 1)]) (r := []) (ck_at dt_Re_readEscape 66 rfl) own_Re_readEscape (cm_at 42 rfl) vk_Re_breakAt rfl nl_Re_breakAt rfl rfl rfl rfl (SH.o hS ⟨by decide, by decide, by decide⟩) (Y_Re_breakAt (by omega) hS p1 ⟨rfl, rfl⟩) ?_
  have hS2 : SH (brC B ((B 100 2) - 1)) := S_Re_breakAt hS
  exact y_wk (c_Re_readEscape_118_ok (by omega) hS2 w) ⟨rfl, ⟨rfl, trivial⟩⟩
def c_Re_readEscape_93 (h1 : qH) (d : Nat) (s0 : Int) (B : qB) (Q : qO → qB → Prop) : Prop := Q (.inl (some (iv s0))) B
theorem c_Re_readEscape_93_ok {h1 : qH} {d : Nat} {s0 : Int} {B : qB} {Q : qO → qB → Prop} (hd : 2 ≤ d) (hS : SH B) (w : c_Re_readEscape_93 h1 d s0 B Q) : qY h1 (d + 1) n_Re_readEscape 93 [none, none, none] [iv s0] B Q := by
  unfold c_Re_readEscape_93 at w
  exact y_retI (ck_at dt_Re_readEscape 54 rfl) rt_Re_readEscape w
def c_Re_readEscape_90 (h1 : qH) (d : Nat) (s1 : Int) (s2 : Int) (B : qB) (Q : qO → qB → Prop) : Prop := qY h1 d n_Re_addClass 0 [some (.ref 100), some (iv s1), some (iv s2), none] [] B (fun o B' => ∃ v : Int, o = .inl (some (iv v)) ∧ SH B' ∧ c_Re_readEscape_93 h1 d v B' Q)
theorem c_Re_readEscape_90_ok {h1 : qH} {d : Nat} {s1 : Int} {s2 : Int} {B : qB} {Q : qO → qB → Prop} (hd : 2 ≤ d) (hS : SH B) (w : c_Re_readEscape_90 h1 d s1 s2 B Q) : qY h1 (d + 1) n_Re_readEscape 90 [none, none, none] [iv s2, iv s1, .ref 100] B Q := by
  unfold c_Re_readEscape_90 at w
  refine y_virt (k' := n_Re_addClass) (n := 1) (as := [iv s1, iv s2]) (r := []) (ck_at dt_Re_readEscape 53 rfl) own_Re_readEscape (cm_at 59 rfl) vk_Re_addClass rfl nl_Re_addClass rfl rfl rfl rfl ⟨(SH.o hS ⟨by decide, by decide, by decide⟩), ?_⟩
  exact w.mono (Nat.le_refl _) (fun o B' ⟨v, ho, hS', w⟩ => Or.inl ⟨some (iv v), ho, y_wk (c_Re_readEscape_93_ok (by omega) hS' w) trivial⟩)
def c_Re_readEscape_44 (h1 : qH) (d : Nat) (x1 : Int) (B : qB) (Q : qO → qB → Prop) : Prop := R32 x1 ∧ (¬ x1 = 98 → 1 ≤ B 90 8 ∧ B 90 8 ≤ 408 ∧ Q (.inl (some (iv (adV B)))) (adT B 6 0 0 1)) ∧ (x1 = 98 → 1 ≤ B 90 8 ∧ B 90 8 ≤ 408 ∧ Q (.inl (some (iv (adV B)))) (adT B 5 0 0 1))
theorem c_Re_readEscape_44_ok {h1 : qH} {d : Nat} {x1 : Int} {B : qB} {Q : qO → qB → Prop} (hd : 2 ≤ d) (hS : SH B) (w : c_Re_readEscape_44 h1 d x1 B Q) : qY h1 (d + 1) n_Re_readEscape 44 [some (.ref 100), some (iv x1), none] [] B Q := by
  unfold c_Re_readEscape_44 at w
  obtain ⟨p1, w⟩ := w
  refine y_ldk (ok := q_isA) (n := 0) (ck_at dt_Re_readEscape 26 rfl) rfl rfl (fun _ => rfl) rfl rfl ?_
  refine y_getF (r := 90) (K := 6) (j := 0) (a := 100) (ck_at dt_Re_readEscape 27 rfl) own_Re_readEscape (cf_at 22 rfl) rfl rfl ⟨(SH.o hS ⟨by decide, by decide, by decide⟩), ?_⟩
  refine y_ldk (ok := q_isI) (n := 1) (ck_at dt_Re_readEscape 28 rfl) rfl rfl (fun _ => rfl) rfl rfl ?_
  refine y_op (ck_at dt_Re_readEscape 29 rfl) rfl (o_bipush _ (by decide)) ?_
  refine y_icmp (t := 58) (ck_at dt_Re_readEscape 30 rfl) rfl p1 ⟨by decide, by decide⟩ ?_ ?_
  · intro q; have w := w.1 q
    obtain ⟨p2, p3, w⟩ := w
    refine y_op (ck_at dt_Re_readEscape 33 rfl) rfl (o_bipush _ (by decide)) ?_
    refine y_op (ck_at dt_Re_readEscape 34 rfl) rfl (o_const _) ?_
    refine y_op (ck_at dt_Re_readEscape 35 rfl) rfl (o_const _) ?_
    refine y_op (ck_at dt_Re_readEscape 36 rfl) rfl (o_const _) ?_
    refine y_virtP (k' := n_Tr_add) (n := 1) (as := [iv 6, iv 0, iv 0, iv 1]) (r := []) (ck_at dt_Re_readEscape 37 rfl) own_Re_readEscape (cm_at 49 rfl) vk_Tr_add rfl nl_Tr_add rfl rfl rfl rfl (SH.o hS ⟨by decide, by decide, by decide⟩) (Y_Tr_add (by omega) hS p2 p3 ⟨by decide, by decide⟩ ⟨rfl, rfl⟩) ?_
    have hS4 : SH (adT B 6 0 0 1) := S_Tr_add hS p2 p3 ⟨by decide, by decide⟩
    exact y_retI (ck_at dt_Re_readEscape 38 rfl) rt_Re_readEscape w
  · intro q; have w := w.2 q
    obtain ⟨p5, p6, w⟩ := w
    refine y_op (ck_at dt_Re_readEscape 31 rfl) rfl (o_const _) ?_
    refine y_goto (t := 60) (ck_at dt_Re_readEscape 32 rfl) rfl ?_
    refine y_op (ck_at dt_Re_readEscape 34 rfl) rfl (o_const _) ?_
    refine y_op (ck_at dt_Re_readEscape 35 rfl) rfl (o_const _) ?_
    refine y_op (ck_at dt_Re_readEscape 36 rfl) rfl (o_const _) ?_
    refine y_virtP (k' := n_Tr_add) (n := 1) (as := [iv 5, iv 0, iv 0, iv 1]) (r := []) (ck_at dt_Re_readEscape 37 rfl) own_Re_readEscape (cm_at 49 rfl) vk_Tr_add rfl nl_Tr_add rfl rfl rfl rfl (SH.o hS ⟨by decide, by decide, by decide⟩) (Y_Tr_add (by omega) hS p5 p6 ⟨by decide, by decide⟩ ⟨rfl, rfl⟩) ?_
    have hS7 : SH (adT B 5 0 0 1) := S_Tr_add hS p5 p6 ⟨by decide, by decide⟩
    exact y_retI (ck_at dt_Re_readEscape 38 rfl) rt_Re_readEscape w
def c_Re_readEscape_0 (h1 : qH) (d : Nat) (B : qB) (Q : qO → qB → Prop) : Prop := RI B ∧ R32 (sgC B (B 100 2 + 1)) ∧ (sgC B (B 100 2 + 1) ≥ 0 → (sgC B (B 100 2 + 1) = 98 → c_Re_readEscape_44 h1 d (sgC B (B 100 2 + 1)) (u2 B 100 2 ((B 100 2) + 2)) Q) ∧ (¬ sgC B (B 100 2 + 1) = 98 → (¬ sgC B (B 100 2 + 1) = 66 → R32 (clsO (sgC B (B 100 2 + 1))) ∧ (clsO (sgC B (B 100 2 + 1)) = (-1) → (¬ bi (isLt (sgC B (B 100 2 + 1))) = 0 → c_Re_readEscape_108 h1 d (sgC B (B 100 2 + 1)) (u2 B 100 2 ((B 100 2) + 2)) Q) ∧ (bi (isLt (sgC B (B 100 2 + 1))) = 0 → (bi (isDg (sgC B (B 100 2 + 1))) = 0 → c_Re_readEscape_118 h1 d (sgC B (B 100 2 + 1)) (u2 B 100 2 ((B 100 2) + 2)) Q) ∧ (¬ bi (isDg (sgC B (B 100 2 + 1))) = 0 → c_Re_readEscape_108 h1 d (sgC B (B 100 2 + 1)) (u2 B 100 2 ((B 100 2) + 2)) Q))) ∧ (¬ clsO (sgC B (B 100 2 + 1)) = (-1) → (sgC B (B 100 2 + 1) ≥ 97 → c_Re_readEscape_90 h1 d (clsO (sgC B (B 100 2 + 1))) 0 (u2 B 100 2 ((B 100 2) + 2)) Q) ∧ (sgC B (B 100 2 + 1) < 97 → c_Re_readEscape_90 h1 d (clsO (sgC B (B 100 2 + 1))) 1 (u2 B 100 2 ((B 100 2) + 2)) Q))) ∧ (sgC B (B 100 2 + 1) = 66 → c_Re_readEscape_44 h1 d (sgC B (B 100 2 + 1)) (u2 B 100 2 ((B 100 2) + 2)) Q))) ∧ (sgC B (B 100 2 + 1) < 0 → R32 (B 100 3) ∧ Q (.inl (some (iv 0))) (brC B ((B 100 2) + 1)))
theorem c_Re_readEscape_0_ok {h1 : qH} {d : Nat} {B : qB} {Q : qO → qB → Prop} (hd : 2 ≤ d) (hS : SH B) (w : c_Re_readEscape_0 h1 d B Q) : qY h1 (d + 1) n_Re_readEscape 0 [some (.ref 100), none, none] [] B Q := by
  unfold c_Re_readEscape_0 at w
  obtain ⟨p1, p2, w⟩ := w
  refine y_ldk (ok := q_isA) (n := 0) (ck_at dt_Re_readEscape 0 rfl) rfl rfl (fun _ => rfl) rfl rfl ?_
  refine y_op (ck_at dt_Re_readEscape 1 rfl) rfl (o_const _) ?_
  refine y_virtP (k' := n_Re_see) (n := 2) (as := [iv 1]) (r := []) (ck_at dt_Re_readEscape 2 rfl) own_Re_readEscape (cm_at 41 rfl) vk_Re_see rfl nl_Re_see rfl rfl rfl rfl (SH.o hS ⟨by decide, by decide, by decide⟩) (Y_Re_see (by omega) hS p1 (by decide) (by decide) ⟨rfl, rfl⟩) ?_
  refine y_st1 (ok := q_isI) (n := 1) (L' := [some (.ref 100), some (iv (sgC B (B 100 2 + 1))), none]) (ck_at dt_Re_readEscape 3 rfl) rfl (fun _ => rfl) (fun _ _ => rfl) rfl nl_Re_readEscape (by decide) rfl rfl ?_
  refine y_ldk (ok := q_isI) (n := 1) (ck_at dt_Re_readEscape 4 rfl) rfl rfl (fun _ => rfl) rfl rfl ?_
  refine y_ifz (t := 22) (ck_at dt_Re_readEscape 5 rfl) rfl p2 ?_ ?_
  · intro q; have w := w.1 q
    refine y_ldk (ok := q_isA) (n := 0) (ck_at dt_Re_readEscape 14 rfl) rfl rfl (fun _ => rfl) rfl rfl ?_
    refine y_op (ck_at dt_Re_readEscape 15 rfl) rfl rfl ?_
    refine y_getI (K := 6) (j := 2) (a := 100) (ck_at dt_Re_readEscape 16 rfl) own_Re_readEscape (cf_at 25 rfl) rfl rfl rfl ⟨(SH.o hS ⟨by decide, by decide, by decide⟩), ?_⟩
    refine y_op (ck_at dt_Re_readEscape 17 rfl) rfl (o_const _) ?_
    refine y_op (ck_at dt_Re_readEscape 18 rfl) rfl o_iadd ?_
    refine y_putI (K := 6) (j := 2) (a := 100) (ck_at dt_Re_readEscape 19 rfl) own_Re_readEscape (cf_at 25 rfl) rfl rfl rfl rfl rfl ⟨⟨SH.o hS ⟨by decide, by decide, by decide⟩, by decide⟩, ?_⟩
    have hS3 := SH_u2 (b := 100) (x := 2) (z := (B 100 2) + 2) hS (by decide)
    refine y_ldk (ok := q_isI) (n := 1) (ck_at dt_Re_readEscape 20 rfl) rfl rfl (fun _ => rfl) rfl rfl ?_
    refine y_op (ck_at dt_Re_readEscape 21 rfl) rfl (o_bipush _ (by decide)) ?_
    refine y_icmp (t := 44) (ck_at dt_Re_readEscape 22 rfl) rfl p2 ⟨by decide, by decide⟩ ?_ ?_
    · intro q; have w := w.1 q
      exact y_wk (c_Re_readEscape_44_ok (by omega) hS3 w) ⟨rfl, ⟨rfl, trivial⟩⟩
    · intro q; have w := w.2 q
      refine y_ldk (ok := q_isI) (n := 1) (ck_at dt_Re_readEscape 23 rfl) rfl rfl (fun _ => rfl) rfl rfl ?_
      refine y_op (ck_at dt_Re_readEscape 24 rfl) rfl (o_bipush _ (by decide)) ?_
      refine y_icmp (t := 67) (ck_at dt_Re_readEscape 25 rfl) rfl p2 ⟨by decide, by decide⟩ ?_ ?_
      · intro q; have w := w.1 q
        obtain ⟨p4, w⟩ := w
        refine y_ldk (ok := q_isI) (n := 1) (ck_at dt_Re_readEscape 39 rfl) rfl rfl (fun _ => rfl) rfl rfl ?_
        refine y_statP (k' := n_Re_classOf) (n := 0) (as := [iv (sgC B (B 100 2 + 1))]) (r := []) (ck_at dt_Re_readEscape 40 rfl) own_Re_readEscape (cm_at 60 rfl) (cs_at 13 rfl) vk_Re_classOf rfl nl_Re_classOf rfl rfl rfl rfl  (Y_Re_classOf (by omega) hS3 p2 ⟨rfl, rfl⟩) ?_
        refine y_st1 (ok := q_isI) (n := 2) (L' := [some (.ref 100), some (iv (sgC B (B 100 2 + 1))), some (iv (clsO (sgC B (B 100 2 + 1))))]) (ck_at dt_Re_readEscape 41 rfl) rfl (fun _ => rfl) (fun _ _ => rfl) rfl nl_Re_readEscape (by decide) rfl rfl ?_
        refine y_ldk (ok := q_isI) (n := 2) (ck_at dt_Re_readEscape 42 rfl) rfl rfl (fun _ => rfl) rfl rfl ?_
        refine y_op (ck_at dt_Re_readEscape 43 rfl) rfl (o_const _) ?_
        refine y_icmp (t := 94) (ck_at dt_Re_readEscape 44 rfl) rfl p4 ⟨by decide, by decide⟩ ?_ ?_
        · intro q; have w := w.1 q
          refine y_ldk (ok := q_isI) (n := 1) (ck_at dt_Re_readEscape 55 rfl) rfl rfl (fun _ => rfl) rfl rfl ?_
          refine y_stat3P (k' := n_P_isLetter) (n := 0) (as := [iv (sgC B (B 100 2 + 1))]) (r := []) (ck_at dt_Re_readEscape 56 rfl) own_Re_readEscape (cm_at 61 rfl) (cs_at 14 rfl) vk_P_isLetter rfl nl_P_isLetter rfl rfl rfl rfl  (Y_P_isLetter (by omega) hS3 p2 ⟨rfl, rfl⟩) ?_
          refine y_ifz (t := 108) (ck_at dt_Re_readEscape 57 rfl) rfl (R32_bi _) ?_ ?_
          · intro q; have w := w.1 q
            exact y_wk (c_Re_readEscape_108_ok (by omega) hS3 w) ⟨rfl, ⟨rfl, trivial⟩⟩
          · intro q; have w := w.2 q
            refine y_ldk (ok := q_isI) (n := 1) (ck_at dt_Re_readEscape 58 rfl) rfl rfl (fun _ => rfl) rfl rfl ?_
            refine y_stat3P (k' := n_P_isDigit_IZ) (n := 0) (as := [iv (sgC B (B 100 2 + 1))]) (r := []) (ck_at dt_Re_readEscape 59 rfl) own_Re_readEscape (cm_at 62 rfl) (cs_at 15 rfl) vk_P_isDigit_IZ rfl nl_P_isDigit_IZ rfl rfl rfl rfl  (Y_P_isDigit_IZ (by omega) hS3 p2 ⟨rfl, rfl⟩) ?_
            refine y_ifz (t := 118) (ck_at dt_Re_readEscape 60 rfl) rfl (R32_bi _) ?_ ?_
            · intro q; have w := w.1 q
              exact y_wk (c_Re_readEscape_118_ok (by omega) hS3 w) ⟨rfl, ⟨rfl, trivial⟩⟩
            · intro q; have w := w.2 q
              exact y_wk (c_Re_readEscape_108_ok (by omega) hS3 w) ⟨rfl, ⟨rfl, trivial⟩⟩
        · intro q; have w := w.2 q
          refine y_ldk (ok := q_isA) (n := 0) (ck_at dt_Re_readEscape 45 rfl) rfl rfl (fun _ => rfl) rfl rfl ?_
          refine y_ldk (ok := q_isI) (n := 2) (ck_at dt_Re_readEscape 46 rfl) rfl rfl (fun _ => rfl) rfl rfl ?_
          refine y_ldk (ok := q_isI) (n := 1) (ck_at dt_Re_readEscape 47 rfl) rfl rfl (fun _ => rfl) rfl rfl ?_
          refine y_op (ck_at dt_Re_readEscape 48 rfl) rfl (o_bipush _ (by decide)) ?_
          refine y_icmp (t := 89) (ck_at dt_Re_readEscape 49 rfl) rfl p2 ⟨by decide, by decide⟩ ?_ ?_
          · intro q; have w := w.1 q
            refine y_op (ck_at dt_Re_readEscape 52 rfl) rfl (o_const _) ?_
            exact y_wk (c_Re_readEscape_90_ok (by omega) hS3 w) trivial
          · intro q; have w := w.2 q
            refine y_op (ck_at dt_Re_readEscape 50 rfl) rfl (o_const _) ?_
            refine y_goto (t := 90) (ck_at dt_Re_readEscape 51 rfl) rfl ?_
            exact y_wk (c_Re_readEscape_90_ok (by omega) hS3 w) trivial
      · intro q; have w := w.2 q
        exact y_wk (c_Re_readEscape_44_ok (by omega) hS3 w) ⟨rfl, ⟨rfl, trivial⟩⟩
  · intro q; have w := w.2 q
    obtain ⟨p5, w⟩ := w
    refine y_ldk (ok := q_isA) (n := 0) (ck_at dt_Re_readEscape 6 rfl) rfl rfl (fun _ => rfl) rfl rfl ?_
    refine y_ldk (ok := q_isA) (n := 0) (ck_at dt_Re_readEscape 7 rfl) rfl rfl (fun _ => rfl) rfl rfl ?_
    refine y_getI (K := 6) (j := 2) (a := 100) (ck_at dt_Re_readEscape 8 rfl) own_Re_readEscape (cf_at 25 rfl) rfl rfl rfl ⟨(SH.o hS ⟨by decide, by decide, by decide⟩), ?_⟩
    refine y_op (ck_at dt_Re_readEscape 9 rfl) rfl (o_const _) ?_
    refine y_op (ck_at dt_Re_readEscape 10 rfl) rfl o_iadd ?_
    refine y_virtV (k' := n_Re_breakAt) (n := 0) (as := [iv ((B 100 2) + 1)]) (r := []) (ck_at dt_Re_readEscape 11 rfl) own_Re_readEscape (cm_at 42 rfl) vk_Re_breakAt rfl nl_Re_breakAt rfl rfl rfl rfl (SH.o hS ⟨by decide, by decide, by decide⟩) (Y_Re_breakAt (by omega) hS p5 ⟨rfl, rfl⟩) ?_
    have hS6 : SH (brC B ((B 100 2) + 1)) := S_Re_breakAt hS
    refine y_op (ck_at dt_Re_readEscape 12 rfl) rfl (o_const _) ?_
    exact y_retI (ck_at dt_Re_readEscape 13 rfl) rt_Re_readEscape w
/-! PatternTrier$Reader.readEscapedMember(II)V -/
def t_Re_readEscapedMember : List (Nat × Instr × Nat) := [(0, .iload_n 2, 1), (1, .invokestatic 112, 3), (4, .istore_n 3, 1), (5, .iload_n 3, 1), (6, .iconst (-1), 1), (7, .if_icmp .eq 29, 3), (10, .aload_n 0, 1), (11, .getfield 9, 3), (14, .invokevirtual 121, 3), (17, .iload_n 1, 1), (18, .iload_n 3, 1), (19, .iload_n 2, 1), (20, .bipush 97, 2), (22, .if_icmp .ge 7, 3), (25, .iconst 1, 1), (26, .goto 4, 3), (29, .iconst 0, 1), (30, .invokevirtual 130, 3), (33, .goto 47, 3), (36, .iload_n 2, 1), (37, .ifCond .lt 17, 3), (40, .iload_n 2, 1), (41, .invokestatic 115, 3), (44, .ifCond .ne 10, 3), (47, .iload_n 2, 1), (48, .invokestatic 118, 3), (51, .ifCond .eq 16, 3), (54, .aload_n 0, 1), (55, .aload_n 0, 1), (56, .getfield 28, 3), (59, .iconst 1, 1), (60, .iadd, 1), (61, .invokevirtual 50, 3), (64, .goto 16, 3), (67, .aload_n 0, 1), (68, .getfield 9, 3), (71, .invokevirtual 121, 3), (74, .iload_n 1, 1), (75, .iload_n 2, 1), (76, .iload_n 2, 1), (77, .invokevirtual 142, 3), (80, .aload_n 0, 1), (81, .dup, 1), (82, .getfield 28, 3), (85, .iconst 2, 1), (86, .iadd, 1), (87, .putfield 28, 3), (90, .return_, 1)]
set_option maxRecDepth 100000 in
theorem dt_Re_readEscapedMember : q_ck n_Re_readEscapedMember t_Re_readEscapedMember = true := by decide +kernel
def c_Re_readEscapedMember_80 (h1 : qH) (d : Nat) (B : qB) (Q : qO → qB → Prop) : Prop := Q (.inl none) (u2 B 100 2 ((B 100 2) + 2))
theorem c_Re_readEscapedMember_80_ok {h1 : qH} {d : Nat} {B : qB} {Q : qO → qB → Prop} (hd : 1 ≤ d) (hS : SH B) (w : c_Re_readEscapedMember_80 h1 d B Q) : qY h1 (d + 1) n_Re_readEscapedMember 80 [some (.ref 100), none, none, none] [] B Q := by
  unfold c_Re_readEscapedMember_80 at w
  refine y_ldk (ok := q_isA) (n := 0) (ck_at dt_Re_readEscapedMember 41 rfl) rfl rfl (fun _ => rfl) rfl rfl ?_
  refine y_op (ck_at dt_Re_readEscapedMember 42 rfl) rfl rfl ?_
  refine y_getI (K := 6) (j := 2) (a := 100) (ck_at dt_Re_readEscapedMember 43 rfl) own_Re_readEscapedMember (cf_at 25 rfl) rfl rfl rfl ⟨(SH.o hS ⟨by decide, by decide, by decide⟩), ?_⟩
  refine y_op (ck_at dt_Re_readEscapedMember 44 rfl) rfl (o_const _) ?_
  refine y_op (ck_at dt_Re_readEscapedMember 45 rfl) rfl o_iadd ?_
  refine y_putI (K := 6) (j := 2) (a := 100) (ck_at dt_Re_readEscapedMember 46 rfl) own_Re_readEscapedMember (cf_at 25 rfl) rfl rfl rfl rfl rfl ⟨⟨SH.o hS ⟨by decide, by decide, by decide⟩, by decide⟩, ?_⟩
  have hS1 := SH_u2 (b := 100) (x := 2) (z := (B 100 2) + 2) hS (by decide)
  exact y_ret0 (ck_at dt_Re_readEscapedMember 47 rfl) rt_Re_readEscapedMember w
def c_Re_readEscapedMember_54 (h1 : qH) (d : Nat) (B : qB) (Q : qO → qB → Prop) : Prop := R32 (B 100 3) ∧ c_Re_readEscapedMember_80 h1 d (brC B ((B 100 2) + 1)) Q
theorem c_Re_readEscapedMember_54_ok {h1 : qH} {d : Nat} {B : qB} {Q : qO → qB → Prop} (hd : 1 ≤ d) (hS : SH B) (w : c_Re_readEscapedMember_54 h1 d B Q) : qY h1 (d + 1) n_Re_readEscapedMember 54 [some (.ref 100), none, none, none] [] B Q := by
  unfold c_Re_readEscapedMember_54 at w
  obtain ⟨p1, w⟩ := w
  refine y_ldk (ok := q_isA) (n := 0) (ck_at dt_Re_readEscapedMember 27 rfl) rfl rfl (fun _ => rfl) rfl rfl ?_
  refine y_ldk (ok := q_isA) (n := 0) (ck_at dt_Re_readEscapedMember 28 rfl) rfl rfl (fun _ => rfl) rfl rfl ?_
  refine y_getI (K := 6) (j := 2) (a := 100) (ck_at dt_Re_readEscapedMember 29 rfl) own_Re_readEscapedMember (cf_at 25 rfl) rfl rfl rfl ⟨(SH.o hS ⟨by decide, by decide, by decide⟩), ?_⟩
  refine y_op (ck_at dt_Re_readEscapedMember 30 rfl) rfl (o_const _) ?_
  refine y_op (ck_at dt_Re_readEscapedMember 31 rfl) rfl o_iadd ?_
  refine y_virtV (k' := n_Re_breakAt) (n := 0) (as := [iv ((B 100 2) + 1)]) (r := []) (ck_at dt_Re_readEscapedMember 32 rfl) own_Re_readEscapedMember (cm_at 42 rfl) vk_Re_breakAt rfl nl_Re_breakAt rfl rfl rfl rfl (SH.o hS ⟨by decide, by decide, by decide⟩) (Y_Re_breakAt (by omega) hS p1 ⟨rfl, rfl⟩) ?_
  have hS2 : SH (brC B ((B 100 2) + 1)) := S_Re_breakAt hS
  refine y_goto (t := 80) (ck_at dt_Re_readEscapedMember 33 rfl) rfl ?_
  exact y_wk (c_Re_readEscapedMember_80_ok (by omega) hS2 w) ⟨rfl, trivial⟩
def c_Re_readEscapedMember_33 (h1 : qH) (d : Nat) (B : qB) (Q : qO → qB → Prop) : Prop := c_Re_readEscapedMember_80 h1 d B Q
theorem c_Re_readEscapedMember_33_ok {h1 : qH} {d : Nat} {B : qB} {Q : qO → qB → Prop} (hd : 1 ≤ d) (hS : SH B) (w : c_Re_readEscapedMember_33 h1 d B Q) : qY h1 (d + 1) n_Re_readEscapedMember 33 [some (.ref 100), none, none, none] [] B Q := by
  unfold c_Re_readEscapedMember_33 at w
  refine y_goto (t := 80) (ck_at dt_Re_readEscapedMember 18 rfl) rfl ?_
  exact y_wk (c_Re_readEscapedMember_80_ok (by omega) hS w) ⟨rfl, trivial⟩
def c_Re_readEscapedMember_30 (h1 : qH) (d : Nat) (s1 : Int) (s2 : Int) (s3 : Int) (B : qB) (Q : qO → qB → Prop) : Prop := qY h1 d n_Se_addClass 0 [some (.ref 98), some (iv s1), some (iv s2), some (iv s3), none, none, none] [] B (fun o B' => o = .inl none ∧ SH B' ∧ c_Re_readEscapedMember_33 h1 d B' Q)
theorem c_Re_readEscapedMember_30_ok {h1 : qH} {d : Nat} {s1 : Int} {s2 : Int} {s3 : Int} {B : qB} {Q : qO → qB → Prop} (hd : 1 ≤ d) (hS : SH B) (w : c_Re_readEscapedMember_30 h1 d s1 s2 s3 B Q) : qY h1 (d + 1) n_Re_readEscapedMember 30 [some (.ref 100), none, none, none] [iv s3, iv s2, iv s1, .ref 98] B Q := by
  unfold c_Re_readEscapedMember_30 at w
  refine y_virt (k' := n_Se_addClass) (n := 3) (as := [iv s1, iv s2, iv s3]) (r := []) (ck_at dt_Re_readEscapedMember 17 rfl) own_Re_readEscapedMember (cm_at 65 rfl) vk_Se_addClass rfl nl_Se_addClass rfl rfl rfl rfl ⟨(SH.o hS ⟨by decide, by decide, by decide⟩), ?_⟩
  exact w.mono (Nat.le_refl _) (fun o B' ⟨ho, hS', w⟩ => Or.inl ⟨none, ho, y_wk (c_Re_readEscapedMember_33_ok (by omega) hS' w) ⟨rfl, trivial⟩⟩)
def c_Re_readEscapedMember_0 (h1 : qH) (d : Nat) (x1 : Int) (x2 : Int) (B : qB) (Q : qO → qB → Prop) : Prop := R32 x2 ∧ R32 (clsO x2) ∧ (clsO x2 = (-1) → (x2 < 0 → c_Re_readEscapedMember_54 h1 d B Q) ∧ (x2 ≥ 0 → (¬ bi (isLt x2) = 0 → c_Re_readEscapedMember_54 h1 d B Q) ∧ (bi (isLt x2) = 0 → (bi (isDg x2) = 0 → qY h1 d n_Se_addRange 0 [some (.ref 98), some (iv x1), some (iv x2), some (iv x2), none, none] [] B (fun o B' => o = .inl none ∧ SH B' ∧ c_Re_readEscapedMember_80 h1 d B' Q)) ∧ (¬ bi (isDg x2) = 0 → c_Re_readEscapedMember_54 h1 d B Q)))) ∧ (¬ clsO x2 = (-1) → (x2 ≥ 97 → c_Re_readEscapedMember_30 h1 d x1 (clsO x2) 0 B Q) ∧ (x2 < 97 → c_Re_readEscapedMember_30 h1 d x1 (clsO x2) 1 B Q))
theorem c_Re_readEscapedMember_0_ok {h1 : qH} {d : Nat} {x1 : Int} {x2 : Int} {B : qB} {Q : qO → qB → Prop} (hd : 1 ≤ d) (hS : SH B) (w : c_Re_readEscapedMember_0 h1 d x1 x2 B Q) : qY h1 (d + 1) n_Re_readEscapedMember 0 [some (.ref 100), some (iv x1), some (iv x2), none] [] B Q := by
  unfold c_Re_readEscapedMember_0 at w
  obtain ⟨p1, p2, w⟩ := w
  refine y_ldk (ok := q_isI) (n := 2) (ck_at dt_Re_readEscapedMember 0 rfl) rfl rfl (fun _ => rfl) rfl rfl ?_
  refine y_statP (k' := n_Re_classOf) (n := 0) (as := [iv x2]) (r := []) (ck_at dt_Re_readEscapedMember 1 rfl) own_Re_readEscapedMember (cm_at 60 rfl) (cs_at 13 rfl) vk_Re_classOf rfl nl_Re_classOf rfl rfl rfl rfl  (Y_Re_classOf (by omega) hS p1 ⟨rfl, rfl⟩) ?_
  refine y_st1 (ok := q_isI) (n := 3) (L' := [some (.ref 100), some (iv x1), some (iv x2), some (iv (clsO x2))]) (ck_at dt_Re_readEscapedMember 2 rfl) rfl (fun _ => rfl) (fun _ _ => rfl) rfl nl_Re_readEscapedMember (by decide) rfl rfl ?_
  refine y_ldk (ok := q_isI) (n := 3) (ck_at dt_Re_readEscapedMember 3 rfl) rfl rfl (fun _ => rfl) rfl rfl ?_
  refine y_op (ck_at dt_Re_readEscapedMember 4 rfl) rfl (o_const _) ?_
  refine y_icmp (t := 36) (ck_at dt_Re_readEscapedMember 5 rfl) rfl p2 ⟨by decide, by decide⟩ ?_ ?_
  · intro q; have w := w.1 q
    refine y_ldk (ok := q_isI) (n := 2) (ck_at dt_Re_readEscapedMember 19 rfl) rfl rfl (fun _ => rfl) rfl rfl ?_
    refine y_ifz (t := 54) (ck_at dt_Re_readEscapedMember 20 rfl) rfl p1 ?_ ?_
    · intro q; have w := w.1 q
      exact y_wk (c_Re_readEscapedMember_54_ok (by omega) hS w) ⟨rfl, trivial⟩
    · intro q; have w := w.2 q
      refine y_ldk (ok := q_isI) (n := 2) (ck_at dt_Re_readEscapedMember 21 rfl) rfl rfl (fun _ => rfl) rfl rfl ?_
      refine y_stat3P (k' := n_P_isLetter) (n := 0) (as := [iv x2]) (r := []) (ck_at dt_Re_readEscapedMember 22 rfl) own_Re_readEscapedMember (cm_at 61 rfl) (cs_at 14 rfl) vk_P_isLetter rfl nl_P_isLetter rfl rfl rfl rfl  (Y_P_isLetter (by omega) hS p1 ⟨rfl, rfl⟩) ?_
      refine y_ifz (t := 54) (ck_at dt_Re_readEscapedMember 23 rfl) rfl (R32_bi _) ?_ ?_
      · intro q; have w := w.1 q
        exact y_wk (c_Re_readEscapedMember_54_ok (by omega) hS w) ⟨rfl, trivial⟩
      · intro q; have w := w.2 q
        refine y_ldk (ok := q_isI) (n := 2) (ck_at dt_Re_readEscapedMember 24 rfl) rfl rfl (fun _ => rfl) rfl rfl ?_
        refine y_stat3P (k' := n_P_isDigit_IZ) (n := 0) (as := [iv x2]) (r := []) (ck_at dt_Re_readEscapedMember 25 rfl) own_Re_readEscapedMember (cm_at 62 rfl) (cs_at 15 rfl) vk_P_isDigit_IZ rfl nl_P_isDigit_IZ rfl rfl rfl rfl  (Y_P_isDigit_IZ (by omega) hS p1 ⟨rfl, rfl⟩) ?_
        refine y_ifz (t := 67) (ck_at dt_Re_readEscapedMember 26 rfl) rfl (R32_bi _) ?_ ?_
        · intro q; have w := w.1 q
          refine y_ldk (ok := q_isA) (n := 0) (ck_at dt_Re_readEscapedMember 34 rfl) rfl rfl (fun _ => rfl) rfl rfl ?_
          refine y_getF (r := 90) (K := 6) (j := 0) (a := 100) (ck_at dt_Re_readEscapedMember 35 rfl) own_Re_readEscapedMember (cf_at 22 rfl) rfl rfl ⟨(SH.o hS ⟨by decide, by decide, by decide⟩), ?_⟩
          refine y_virtP (k' := n_Tr_sets) (n := 0) (as := []) (r := []) (ck_at dt_Re_readEscapedMember 36 rfl) own_Re_readEscapedMember (cm_at 63 rfl) vk_Tr_sets rfl nl_Tr_sets rfl rfl rfl rfl (SH.o hS ⟨by decide, by decide, by decide⟩) (Y_Tr_sets (by omega) hS ⟨rfl, rfl⟩) ?_
          refine y_ldk (ok := q_isI) (n := 1) (ck_at dt_Re_readEscapedMember 37 rfl) rfl rfl (fun _ => rfl) rfl rfl ?_
          refine y_ldk (ok := q_isI) (n := 2) (ck_at dt_Re_readEscapedMember 38 rfl) rfl rfl (fun _ => rfl) rfl rfl ?_
          refine y_ldk (ok := q_isI) (n := 2) (ck_at dt_Re_readEscapedMember 39 rfl) rfl rfl (fun _ => rfl) rfl rfl ?_
          refine y_virt (k' := n_Se_addRange) (n := 2) (as := [iv x1, iv x2, iv x2]) (r := []) (ck_at dt_Re_readEscapedMember 40 rfl) own_Re_readEscapedMember (cm_at 69 rfl) vk_Se_addRange rfl nl_Se_addRange rfl rfl rfl rfl ⟨(SH.o hS ⟨by decide, by decide, by decide⟩), ?_⟩
          exact w.mono (Nat.le_refl _) (fun o B' ⟨ho, hS', w⟩ => Or.inl ⟨none, ho, y_wk (c_Re_readEscapedMember_80_ok (by omega) hS' w) ⟨rfl, trivial⟩⟩)
        · intro q; have w := w.2 q
          exact y_wk (c_Re_readEscapedMember_54_ok (by omega) hS w) ⟨rfl, trivial⟩
  · intro q; have w := w.2 q
    refine y_ldk (ok := q_isA) (n := 0) (ck_at dt_Re_readEscapedMember 6 rfl) rfl rfl (fun _ => rfl) rfl rfl ?_
    refine y_getF (r := 90) (K := 6) (j := 0) (a := 100) (ck_at dt_Re_readEscapedMember 7 rfl) own_Re_readEscapedMember (cf_at 22 rfl) rfl rfl ⟨(SH.o hS ⟨by decide, by decide, by decide⟩), ?_⟩
    refine y_virtP (k' := n_Tr_sets) (n := 0) (as := []) (r := []) (ck_at dt_Re_readEscapedMember 8 rfl) own_Re_readEscapedMember (cm_at 63 rfl) vk_Tr_sets rfl nl_Tr_sets rfl rfl rfl rfl (SH.o hS ⟨by decide, by decide, by decide⟩) (Y_Tr_sets (by omega) hS ⟨rfl, rfl⟩) ?_
    refine y_ldk (ok := q_isI) (n := 1) (ck_at dt_Re_readEscapedMember 9 rfl) rfl rfl (fun _ => rfl) rfl rfl ?_
    refine y_ldk (ok := q_isI) (n := 3) (ck_at dt_Re_readEscapedMember 10 rfl) rfl rfl (fun _ => rfl) rfl rfl ?_
    refine y_ldk (ok := q_isI) (n := 2) (ck_at dt_Re_readEscapedMember 11 rfl) rfl rfl (fun _ => rfl) rfl rfl ?_
    refine y_op (ck_at dt_Re_readEscapedMember 12 rfl) rfl (o_bipush _ (by decide)) ?_
    refine y_icmp (t := 29) (ck_at dt_Re_readEscapedMember 13 rfl) rfl p1 ⟨by decide, by decide⟩ ?_ ?_
    · intro q; have w := w.1 q
      refine y_op (ck_at dt_Re_readEscapedMember 16 rfl) rfl (o_const _) ?_
      exact y_wk (c_Re_readEscapedMember_30_ok (by omega) hS w) ⟨rfl, trivial⟩
    · intro q; have w := w.2 q
      refine y_op (ck_at dt_Re_readEscapedMember 14 rfl) rfl (o_const _) ?_
      refine y_goto (t := 30) (ck_at dt_Re_readEscapedMember 15 rfl) rfl ?_
      exact y_wk (c_Re_readEscapedMember_30_ok (by omega) hS w) ⟨rfl, trivial⟩
/-! PatternTrier$Reader.readMember(I)V -/
def t_Re_readMember : List (Nat × Instr × Nat) := [(0, .aload_n 0, 1), (1, .iconst 0, 1), (2, .invokevirtual 47, 3), (5, .istore_n 2, 1), (6, .iload_n 2, 1), (7, .ifCond .ge 14, 3), (10, .aload_n 0, 1), (11, .aload_n 0, 1), (12, .getfield 28, 3), (15, .invokevirtual 50, 3), (18, .goto 130, 3), (21, .iload_n 2, 1), (22, .bipush 92, 2), (24, .if_icmp .ne 16, 3), (27, .aload_n 0, 1), (28, .iload_n 1, 1), (29, .aload_n 0, 1), (30, .iconst 1, 1), (31, .invokevirtual 47, 3), (34, .invokevirtual 139, 3), (37, .goto 111, 3), (40, .aload_n 0, 1), (41, .iconst 1, 1), (42, .invokevirtual 47, 3), (45, .bipush 45, 2), (47, .if_icmp .ne 78, 3), (50, .aload_n 0, 1), (51, .iconst 2, 1), (52, .invokevirtual 47, 3), (55, .ifCond .lt 70, 3), (58, .aload_n 0, 1), (59, .iconst 2, 1), (60, .invokevirtual 47, 3), (63, .bipush 92, 2), (65, .if_icmp .eq 60, 3), (68, .aload_n 0, 1), (69, .iconst 2, 1), (70, .invokevirtual 47, 3), (73, .bipush 93, 2), (75, .if_icmp .eq 50, 3), (78, .aload_n 0, 1), (79, .iconst 2, 1), (80, .invokevirtual 47, 3), (83, .iload_n 2, 1), (84, .if_icmp .ge 11, 3), (87, .aload_n 0, 1), (88, .aload_n 0, 1), (89, .getfield 28, 3), (92, .invokevirtual 50, 3), (95, .aload_n 0, 1), (96, .getfield 9, 3), (99, .invokevirtual 121, 3), (102, .iload_n 1, 1), (103, .iload_n 2, 1), (104, .aload_n 0, 1), (105, .iconst 2, 1), (106, .invokevirtual 47, 3), (109, .invokevirtual 142, 3), (112, .aload_n 0, 1), (113, .dup, 1), (114, .getfield 28, 3), (117, .iconst 3, 1), (118, .iadd, 1), (119, .putfield 28, 3), (122, .goto 26, 3), (125, .aload_n 0, 1), (126, .getfield 9, 3), (129, .invokevirtual 121, 3), (132, .iload_n 1, 1), (133, .iload_n 2, 1), (134, .iload_n 2, 1), (135, .invokevirtual 142, 3), (138, .aload_n 0, 1), (139, .dup, 1), (140, .getfield 28, 3), (143, .iconst 1, 1), (144, .iadd, 1), (145, .putfield 28, 3), (148, .return_, 1)]
set_option maxRecDepth 100000 in
theorem dt_Re_readMember : q_ck n_Re_readMember t_Re_readMember = true := by decide +kernel
def c_Re_readMember_138 (h1 : qH) (d : Nat) (B : qB) (Q : qO → qB → Prop) : Prop := Q (.inl none) (u2 B 100 2 ((B 100 2) + 1))
theorem c_Re_readMember_138_ok {h1 : qH} {d : Nat} {B : qB} {Q : qO → qB → Prop} (hd : 2 ≤ d) (hS : SH B) (w : c_Re_readMember_138 h1 d B Q) : qY h1 (d + 1) n_Re_readMember 138 [some (.ref 100), none, none] [] B Q := by
  unfold c_Re_readMember_138 at w
  refine y_ldk (ok := q_isA) (n := 0) (ck_at dt_Re_readMember 72 rfl) rfl rfl (fun _ => rfl) rfl rfl ?_
  refine y_op (ck_at dt_Re_readMember 73 rfl) rfl rfl ?_
  refine y_getI (K := 6) (j := 2) (a := 100) (ck_at dt_Re_readMember 74 rfl) own_Re_readMember (cf_at 25 rfl) rfl rfl rfl ⟨(SH.o hS ⟨by decide, by decide, by decide⟩), ?_⟩
  refine y_op (ck_at dt_Re_readMember 75 rfl) rfl (o_const _) ?_
  refine y_op (ck_at dt_Re_readMember 76 rfl) rfl o_iadd ?_
  refine y_putI (K := 6) (j := 2) (a := 100) (ck_at dt_Re_readMember 77 rfl) own_Re_readMember (cf_at 25 rfl) rfl rfl rfl rfl rfl ⟨⟨SH.o hS ⟨by decide, by decide, by decide⟩, by decide⟩, ?_⟩
  have hS1 := SH_u2 (b := 100) (x := 2) (z := (B 100 2) + 1) hS (by decide)
  exact y_ret0 (ck_at dt_Re_readMember 78 rfl) rt_Re_readMember w
def c_Re_readMember_125 (h1 : qH) (d : Nat) (x1 : Int) (x2 : Int) (B : qB) (Q : qO → qB → Prop) : Prop := qY h1 d n_Se_addRange 0 [some (.ref 98), some (iv x1), some (iv x2), some (iv x2), none, none] [] B (fun o B' => o = .inl none ∧ SH B' ∧ c_Re_readMember_138 h1 d B' Q)
theorem c_Re_readMember_125_ok {h1 : qH} {d : Nat} {x1 : Int} {x2 : Int} {B : qB} {Q : qO → qB → Prop} (hd : 2 ≤ d) (hS : SH B) (w : c_Re_readMember_125 h1 d x1 x2 B Q) : qY h1 (d + 1) n_Re_readMember 125 [some (.ref 100), some (iv x1), some (iv x2)] [] B Q := by
  unfold c_Re_readMember_125 at w
  refine y_ldk (ok := q_isA) (n := 0) (ck_at dt_Re_readMember 65 rfl) rfl rfl (fun _ => rfl) rfl rfl ?_
  refine y_getF (r := 90) (K := 6) (j := 0) (a := 100) (ck_at dt_Re_readMember 66 rfl) own_Re_readMember (cf_at 22 rfl) rfl rfl ⟨(SH.o hS ⟨by decide, by decide, by decide⟩), ?_⟩
  refine y_virtP (k' := n_Tr_sets) (n := 0) (as := []) (r := []) (ck_at dt_Re_readMember 67 rfl) own_Re_readMember (cm_at 63 rfl) vk_Tr_sets rfl nl_Tr_sets rfl rfl rfl rfl (SH.o hS ⟨by decide, by decide, by decide⟩) (Y_Tr_sets (by omega) hS ⟨rfl, rfl⟩) ?_
  refine y_ldk (ok := q_isI) (n := 1) (ck_at dt_Re_readMember 68 rfl) rfl rfl (fun _ => rfl) rfl rfl ?_
  refine y_ldk (ok := q_isI) (n := 2) (ck_at dt_Re_readMember 69 rfl) rfl rfl (fun _ => rfl) rfl rfl ?_
  refine y_ldk (ok := q_isI) (n := 2) (ck_at dt_Re_readMember 70 rfl) rfl rfl (fun _ => rfl) rfl rfl ?_
  refine y_virt (k' := n_Se_addRange) (n := 2) (as := [iv x1, iv x2, iv x2]) (r := []) (ck_at dt_Re_readMember 71 rfl) own_Re_readMember (cm_at 69 rfl) vk_Se_addRange rfl nl_Se_addRange rfl rfl rfl rfl ⟨(SH.o hS ⟨by decide, by decide, by decide⟩), ?_⟩
  exact w.mono (Nat.le_refl _) (fun o B' ⟨ho, hS', w⟩ => Or.inl ⟨none, ho, y_wk (c_Re_readMember_138_ok (by omega) hS' w) ⟨rfl, trivial⟩⟩)
def c_Re_readMember_112 (h1 : qH) (d : Nat) (B : qB) (Q : qO → qB → Prop) : Prop := Q (.inl none) (u2 B 100 2 ((B 100 2) + 3))
theorem c_Re_readMember_112_ok {h1 : qH} {d : Nat} {B : qB} {Q : qO → qB → Prop} (hd : 2 ≤ d) (hS : SH B) (w : c_Re_readMember_112 h1 d B Q) : qY h1 (d + 1) n_Re_readMember 112 [some (.ref 100), none, none] [] B Q := by
  unfold c_Re_readMember_112 at w
  refine y_ldk (ok := q_isA) (n := 0) (ck_at dt_Re_readMember 58 rfl) rfl rfl (fun _ => rfl) rfl rfl ?_
  refine y_op (ck_at dt_Re_readMember 59 rfl) rfl rfl ?_
  refine y_getI (K := 6) (j := 2) (a := 100) (ck_at dt_Re_readMember 60 rfl) own_Re_readMember (cf_at 25 rfl) rfl rfl rfl ⟨(SH.o hS ⟨by decide, by decide, by decide⟩), ?_⟩
  refine y_op (ck_at dt_Re_readMember 61 rfl) rfl (o_const _) ?_
  refine y_op (ck_at dt_Re_readMember 62 rfl) rfl o_iadd ?_
  refine y_putI (K := 6) (j := 2) (a := 100) (ck_at dt_Re_readMember 63 rfl) own_Re_readMember (cf_at 25 rfl) rfl rfl rfl rfl rfl ⟨⟨SH.o hS ⟨by decide, by decide, by decide⟩, by decide⟩, ?_⟩
  have hS1 := SH_u2 (b := 100) (x := 2) (z := (B 100 2) + 3) hS (by decide)
  refine y_goto (t := 148) (ck_at dt_Re_readMember 64 rfl) rfl ?_
  exact y_ret0 (ck_at dt_Re_readMember 78 rfl) rt_Re_readMember w
def c_Re_readMember_95 (h1 : qH) (d : Nat) (x1 : Int) (x2 : Int) (B : qB) (Q : qO → qB → Prop) : Prop := RI B ∧ qY h1 d n_Se_addRange 0 [some (.ref 98), some (iv x1), some (iv x2), some (iv (sgC B (B 100 2 + 2))), none, none] [] B (fun o B' => o = .inl none ∧ SH B' ∧ c_Re_readMember_112 h1 d B' Q)
theorem c_Re_readMember_95_ok {h1 : qH} {d : Nat} {x1 : Int} {x2 : Int} {B : qB} {Q : qO → qB → Prop} (hd : 2 ≤ d) (hS : SH B) (w : c_Re_readMember_95 h1 d x1 x2 B Q) : qY h1 (d + 1) n_Re_readMember 95 [some (.ref 100), some (iv x1), some (iv x2)] [] B Q := by
  unfold c_Re_readMember_95 at w
  obtain ⟨p1, w⟩ := w
  refine y_ldk (ok := q_isA) (n := 0) (ck_at dt_Re_readMember 49 rfl) rfl rfl (fun _ => rfl) rfl rfl ?_
  refine y_getF (r := 90) (K := 6) (j := 0) (a := 100) (ck_at dt_Re_readMember 50 rfl) own_Re_readMember (cf_at 22 rfl) rfl rfl ⟨(SH.o hS ⟨by decide, by decide, by decide⟩), ?_⟩
  refine y_virtP (k' := n_Tr_sets) (n := 0) (as := []) (r := []) (ck_at dt_Re_readMember 51 rfl) own_Re_readMember (cm_at 63 rfl) vk_Tr_sets rfl nl_Tr_sets rfl rfl rfl rfl (SH.o hS ⟨by decide, by decide, by decide⟩) (Y_Tr_sets (by omega) hS ⟨rfl, rfl⟩) ?_
  refine y_ldk (ok := q_isI) (n := 1) (ck_at dt_Re_readMember 52 rfl) rfl rfl (fun _ => rfl) rfl rfl ?_
  refine y_ldk (ok := q_isI) (n := 2) (ck_at dt_Re_readMember 53 rfl) rfl rfl (fun _ => rfl) rfl rfl ?_
  refine y_ldk (ok := q_isA) (n := 0) (ck_at dt_Re_readMember 54 rfl) rfl rfl (fun _ => rfl) rfl rfl ?_
  refine y_op (ck_at dt_Re_readMember 55 rfl) rfl (o_const _) ?_
  refine y_virtP (k' := n_Re_see) (n := 2) (as := [iv 2]) (r := [iv x2, iv x1, .ref 98]) (ck_at dt_Re_readMember 56 rfl) own_Re_readMember (cm_at 41 rfl) vk_Re_see rfl nl_Re_see rfl rfl rfl rfl (SH.o hS ⟨by decide, by decide, by decide⟩) (Y_Re_see (by omega) hS p1 (by decide) (by decide) ⟨rfl, rfl⟩) ?_
  refine y_virt (k' := n_Se_addRange) (n := 2) (as := [iv x1, iv x2, iv (sgC B (B 100 2 + 2))]) (r := []) (ck_at dt_Re_readMember 57 rfl) own_Re_readMember (cm_at 69 rfl) vk_Se_addRange rfl nl_Se_addRange rfl rfl rfl rfl ⟨(SH.o hS ⟨by decide, by decide, by decide⟩), ?_⟩
  exact w.mono (Nat.le_refl _) (fun o B' ⟨ho, hS', w⟩ => Or.inl ⟨none, ho, y_wk (c_Re_readMember_112_ok (by omega) hS' w) ⟨rfl, trivial⟩⟩)
def c_Re_readMember_37 (h1 : qH) (d : Nat) (B : qB) (Q : qO → qB → Prop) : Prop := Q (.inl none) B
theorem c_Re_readMember_37_ok {h1 : qH} {d : Nat} {B : qB} {Q : qO → qB → Prop} (hd : 2 ≤ d) (hS : SH B) (w : c_Re_readMember_37 h1 d B Q) : qY h1 (d + 1) n_Re_readMember 37 [none, none, none] [] B Q := by
  unfold c_Re_readMember_37 at w
  refine y_goto (t := 148) (ck_at dt_Re_readMember 20 rfl) rfl ?_
  exact y_ret0 (ck_at dt_Re_readMember 78 rfl) rt_Re_readMember w
def c_Re_readMember_0 (h1 : qH) (d : Nat) (x1 : Int) (B : qB) (Q : qO → qB → Prop) : Prop := RI B ∧ R32 (sgC B (B 100 2 + 0)) ∧ (sgC B (B 100 2 + 0) ≥ 0 → (¬ sgC B (B 100 2 + 0) = 92 → R32 (sgC B (B 100 2 + 1)) ∧ (¬ sgC B (B 100 2 + 1) = 45 → c_Re_readMember_125 h1 d x1 (sgC B (B 100 2 + 0)) B Q) ∧ (sgC B (B 100 2 + 1) = 45 → R32 (sgC B (B 100 2 + 2)) ∧ (sgC B (B 100 2 + 2) < 0 → c_Re_readMember_125 h1 d x1 (sgC B (B 100 2 + 0)) B Q) ∧ (sgC B (B 100 2 + 2) ≥ 0 → (sgC B (B 100 2 + 2) = 92 → c_Re_readMember_125 h1 d x1 (sgC B (B 100 2 + 0)) B Q) ∧ (¬ sgC B (B 100 2 + 2) = 92 → (sgC B (B 100 2 + 2) = 93 → c_Re_readMember_125 h1 d x1 (sgC B (B 100 2 + 0)) B Q) ∧ (¬ sgC B (B 100 2 + 2) = 93 → (sgC B (B 100 2 + 2) ≥ sgC B (B 100 2 + 0) → c_Re_readMember_95 h1 d x1 (sgC B (B 100 2 + 0)) B Q) ∧ (sgC B (B 100 2 + 2) < sgC B (B 100 2 + 0) → R32 (B 100 3) ∧ c_Re_readMember_95 h1 d x1 (sgC B (B 100 2 + 0)) (brC B (B 100 2)) Q)))))) ∧ (sgC B (B 100 2 + 0) = 92 → qY h1 d n_Re_readEscapedMember 0 [some (.ref 100), some (iv x1), some (iv (sgC B (B 100 2 + 1))), none] [] B (fun o B' => o = .inl none ∧ SH B' ∧ c_Re_readMember_37 h1 d B' Q))) ∧ (sgC B (B 100 2 + 0) < 0 → R32 (B 100 3) ∧ Q (.inl none) (brC B (B 100 2)))
theorem c_Re_readMember_0_ok {h1 : qH} {d : Nat} {x1 : Int} {B : qB} {Q : qO → qB → Prop} (hd : 2 ≤ d) (hS : SH B) (w : c_Re_readMember_0 h1 d x1 B Q) : qY h1 (d + 1) n_Re_readMember 0 [some (.ref 100), some (iv x1), none] [] B Q := by
  unfold c_Re_readMember_0 at w
  obtain ⟨p1, p2, w⟩ := w
  refine y_ldk (ok := q_isA) (n := 0) (ck_at dt_Re_readMember 0 rfl) rfl rfl (fun _ => rfl) rfl rfl ?_
  refine y_op (ck_at dt_Re_readMember 1 rfl) rfl (o_const _) ?_
  refine y_virtP (k' := n_Re_see) (n := 2) (as := [iv 0]) (r := []) (ck_at dt_Re_readMember 2 rfl) own_Re_readMember (cm_at 41 rfl) vk_Re_see rfl nl_Re_see rfl rfl rfl rfl (SH.o hS ⟨by decide, by decide, by decide⟩) (Y_Re_see (by omega) hS p1 (by decide) (by decide) ⟨rfl, rfl⟩) ?_
  refine y_st1 (ok := q_isI) (n := 2) (L' := [some (.ref 100), some (iv x1), some (iv (sgC B (B 100 2 + 0)))]) (ck_at dt_Re_readMember 3 rfl) rfl (fun _ => rfl) (fun _ _ => rfl) rfl nl_Re_readMember (by decide) rfl rfl ?_
  refine y_ldk (ok := q_isI) (n := 2) (ck_at dt_Re_readMember 4 rfl) rfl rfl (fun _ => rfl) rfl rfl ?_
  refine y_ifz (t := 21) (ck_at dt_Re_readMember 5 rfl) rfl p2 ?_ ?_
  · intro q; have w := w.1 q
    refine y_ldk (ok := q_isI) (n := 2) (ck_at dt_Re_readMember 11 rfl) rfl rfl (fun _ => rfl) rfl rfl ?_
    refine y_op (ck_at dt_Re_readMember 12 rfl) rfl (o_bipush _ (by decide)) ?_
    refine y_icmp (t := 40) (ck_at dt_Re_readMember 13 rfl) rfl p2 ⟨by decide, by decide⟩ ?_ ?_
    · intro q; have w := w.1 q
      obtain ⟨p3, w⟩ := w
      refine y_ldk (ok := q_isA) (n := 0) (ck_at dt_Re_readMember 21 rfl) rfl rfl (fun _ => rfl) rfl rfl ?_
      refine y_op (ck_at dt_Re_readMember 22 rfl) rfl (o_const _) ?_
      refine y_virtP (k' := n_Re_see) (n := 2) (as := [iv 1]) (r := []) (ck_at dt_Re_readMember 23 rfl) own_Re_readMember (cm_at 41 rfl) vk_Re_see rfl nl_Re_see rfl rfl rfl rfl (SH.o hS ⟨by decide, by decide, by decide⟩) (Y_Re_see (by omega) hS p1 (by decide) (by decide) ⟨rfl, rfl⟩) ?_
      refine y_op (ck_at dt_Re_readMember 24 rfl) rfl (o_bipush _ (by decide)) ?_
      refine y_icmp (t := 125) (ck_at dt_Re_readMember 25 rfl) rfl p3 ⟨by decide, by decide⟩ ?_ ?_
      · intro q; have w := w.1 q
        exact y_wk (c_Re_readMember_125_ok (by omega) hS w) ⟨rfl, ⟨rfl, ⟨rfl, trivial⟩⟩⟩
      · intro q; have w := w.2 q
        obtain ⟨p4, w⟩ := w
        refine y_ldk (ok := q_isA) (n := 0) (ck_at dt_Re_readMember 26 rfl) rfl rfl (fun _ => rfl) rfl rfl ?_
        refine y_op (ck_at dt_Re_readMember 27 rfl) rfl (o_const _) ?_
        refine y_virtP (k' := n_Re_see) (n := 2) (as := [iv 2]) (r := []) (ck_at dt_Re_readMember 28 rfl) own_Re_readMember (cm_at 41 rfl) vk_Re_see rfl nl_Re_see rfl rfl rfl rfl (SH.o hS ⟨by decide, by decide, by decide⟩) (Y_Re_see (by omega) hS p1 (by decide) (by decide) ⟨rfl, rfl⟩) ?_
        refine y_ifz (t := 125) (ck_at dt_Re_readMember 29 rfl) rfl p4 ?_ ?_
        · intro q; have w := w.1 q
          exact y_wk (c_Re_readMember_125_ok (by omega) hS w) ⟨rfl, ⟨rfl, ⟨rfl, trivial⟩⟩⟩
        · intro q; have w := w.2 q
          refine y_ldk (ok := q_isA) (n := 0) (ck_at dt_Re_readMember 30 rfl) rfl rfl (fun _ => rfl) rfl rfl ?_
          refine y_op (ck_at dt_Re_readMember 31 rfl) rfl (o_const _) ?_
          refine y_virtP (k' := n_Re_see) (n := 2) (as := [iv 2]) (r := []) (ck_at dt_Re_readMember 32 rfl) own_Re_readMember (cm_at 41 rfl) vk_Re_see rfl nl_Re_see rfl rfl rfl rfl (SH.o hS ⟨by decide, by decide, by decide⟩) (Y_Re_see (by omega) hS p1 (by decide) (by decide) ⟨rfl, rfl⟩) ?_
          refine y_op (ck_at dt_Re_readMember 33 rfl) rfl (o_bipush _ (by decide)) ?_
          refine y_icmp (t := 125) (ck_at dt_Re_readMember 34 rfl) rfl p4 ⟨by decide, by decide⟩ ?_ ?_
          · intro q; have w := w.1 q
            exact y_wk (c_Re_readMember_125_ok (by omega) hS w) ⟨rfl, ⟨rfl, ⟨rfl, trivial⟩⟩⟩
          · intro q; have w := w.2 q
            refine y_ldk (ok := q_isA) (n := 0) (ck_at dt_Re_readMember 35 rfl) rfl rfl (fun _ => rfl) rfl rfl ?_
            refine y_op (ck_at dt_Re_readMember 36 rfl) rfl (o_const _) ?_
            refine y_virtP (k' := n_Re_see) (n := 2) (as := [iv 2]) (r := []) (ck_at dt_Re_readMember 37 rfl) own_Re_readMember (cm_at 41 rfl) vk_Re_see rfl nl_Re_see rfl rfl rfl rfl (SH.o hS ⟨by decide, by decide, by decide⟩) (Y_Re_see (by omega) hS p1 (by decide) (by decide) ⟨rfl, rfl⟩) ?_
            refine y_op (ck_at dt_Re_readMember 38 rfl) rfl (o_bipush _ (by decide)) ?_
            refine y_icmp (t := 125) (ck_at dt_Re_readMember 39 rfl) rfl p4 ⟨by decide, by decide⟩ ?_ ?_
            · intro q; have w := w.1 q
              exact y_wk (c_Re_readMember_125_ok (by omega) hS w) ⟨rfl, ⟨rfl, ⟨rfl, trivial⟩⟩⟩
            · intro q; have w := w.2 q
              refine y_ldk (ok := q_isA) (n := 0) (ck_at dt_Re_readMember 40 rfl) rfl rfl (fun _ => rfl) rfl rfl ?_
              refine y_op (ck_at dt_Re_readMember 41 rfl) rfl (o_const _) ?_
              refine y_virtP (k' := n_Re_see) (n := 2) (as := [iv 2]) (r := []) (ck_at dt_Re_readMember 42 rfl) own_Re_readMember (cm_at 41 rfl) vk_Re_see rfl nl_Re_see rfl rfl rfl rfl (SH.o hS ⟨by decide, by decide, by decide⟩) (Y_Re_see (by omega) hS p1 (by decide) (by decide) ⟨rfl, rfl⟩) ?_
              refine y_ldk (ok := q_isI) (n := 2) (ck_at dt_Re_readMember 43 rfl) rfl rfl (fun _ => rfl) rfl rfl ?_
              refine y_icmp (t := 95) (ck_at dt_Re_readMember 44 rfl) rfl p4 p2 ?_ ?_
              · intro q; have w := w.1 q
                exact y_wk (c_Re_readMember_95_ok (by omega) hS w) ⟨rfl, ⟨rfl, ⟨rfl, trivial⟩⟩⟩
              · intro q; have w := w.2 q
                obtain ⟨p5, w⟩ := w
                refine y_ldk (ok := q_isA) (n := 0) (ck_at dt_Re_readMember 45 rfl) rfl rfl (fun _ => rfl) rfl rfl ?_
                refine y_ldk (ok := q_isA) (n := 0) (ck_at dt_Re_readMember 46 rfl) rfl rfl (fun _ => rfl) rfl rfl ?_
                refine y_getI (K := 6) (j := 2) (a := 100) (ck_at dt_Re_readMember 47 rfl) own_Re_readMember (cf_at 25 rfl) rfl rfl rfl ⟨(SH.o hS ⟨by decide, by decide, by decide⟩), ?_⟩
                refine y_virtV (k' := n_Re_breakAt) (n := 0) (as := [iv (B 100 2)]) (r := []) (ck_at dt_Re_readMember 48 rfl) own_Re_readMember (cm_at 42 rfl) vk_Re_breakAt rfl nl_Re_breakAt rfl rfl rfl rfl (SH.o hS ⟨by decide, by decide, by decide⟩) (Y_Re_breakAt (by omega) hS p5 ⟨rfl, rfl⟩) ?_
                have hS6 : SH (brC B (B 100 2)) := S_Re_breakAt hS
                exact y_wk (c_Re_readMember_95_ok (by omega) hS6 w) ⟨rfl, ⟨rfl, ⟨rfl, trivial⟩⟩⟩
    · intro q; have w := w.2 q
      refine y_ldk (ok := q_isA) (n := 0) (ck_at dt_Re_readMember 14 rfl) rfl rfl (fun _ => rfl) rfl rfl ?_
      refine y_ldk (ok := q_isI) (n := 1) (ck_at dt_Re_readMember 15 rfl) rfl rfl (fun _ => rfl) rfl rfl ?_
      refine y_ldk (ok := q_isA) (n := 0) (ck_at dt_Re_readMember 16 rfl) rfl rfl (fun _ => rfl) rfl rfl ?_
      refine y_op (ck_at dt_Re_readMember 17 rfl) rfl (o_const _) ?_
      refine y_virtP (k' := n_Re_see) (n := 2) (as := [iv 1]) (r := [iv x1, .ref 100]) (ck_at dt_Re_readMember 18 rfl) own_Re_readMember (cm_at 41 rfl) vk_Re_see rfl nl_Re_see rfl rfl rfl rfl (SH.o hS ⟨by decide, by decide, by decide⟩) (Y_Re_see (by omega) hS p1 (by decide) (by decide) ⟨rfl, rfl⟩) ?_
      refine y_virt (k' := n_Re_readEscapedMember) (n := 1) (as := [iv x1, iv (sgC B (B 100 2 + 1))]) (r := []) (ck_at dt_Re_readMember 19 rfl) own_Re_readMember (cm_at 68 rfl) vk_Re_readEscapedMember rfl nl_Re_readEscapedMember rfl rfl rfl rfl ⟨(SH.o hS ⟨by decide, by decide, by decide⟩), ?_⟩
      exact w.mono (Nat.le_refl _) (fun o B' ⟨ho, hS', w⟩ => Or.inl ⟨none, ho, y_wk (c_Re_readMember_37_ok (by omega) hS' w) trivial⟩)
  · intro q; have w := w.2 q
    obtain ⟨p7, w⟩ := w
    refine y_ldk (ok := q_isA) (n := 0) (ck_at dt_Re_readMember 6 rfl) rfl rfl (fun _ => rfl) rfl rfl ?_
    refine y_ldk (ok := q_isA) (n := 0) (ck_at dt_Re_readMember 7 rfl) rfl rfl (fun _ => rfl) rfl rfl ?_
    refine y_getI (K := 6) (j := 2) (a := 100) (ck_at dt_Re_readMember 8 rfl) own_Re_readMember (cf_at 25 rfl) rfl rfl rfl ⟨(SH.o hS ⟨by decide, by decide, by decide⟩), ?_⟩
    refine y_virtV (k' := n_Re_breakAt) (n := 0) (as := [iv (B 100 2)]) (r := []) (ck_at dt_Re_readMember 9 rfl) own_Re_readMember (cm_at 42 rfl) vk_Re_breakAt rfl nl_Re_breakAt rfl rfl rfl rfl (SH.o hS ⟨by decide, by decide, by decide⟩) (Y_Re_breakAt (by omega) hS p7 ⟨rfl, rfl⟩) ?_
    have hS8 : SH (brC B (B 100 2)) := S_Re_breakAt hS
    refine y_goto (t := 148) (ck_at dt_Re_readMember 10 rfl) rfl ?_
    exact y_ret0 (ck_at dt_Re_readMember 78 rfl) rt_Re_readMember w
/-! PatternTrier$Reader.readSet()I -/
def t_Re_readSet : List (Nat × Instr × Nat) := [(0, .aload_n 0, 1), (1, .getfield 9, 3), (4, .invokevirtual 121, 3), (7, .invokevirtual 125, 3), (10, .istore_n 1, 1), (11, .aload_n 0, 1), (12, .dup, 1), (13, .getfield 28, 3), (16, .iconst 1, 1), (17, .iadd, 1), (18, .putfield 28, 3), (21, .aload_n 0, 1), (22, .iconst 0, 1), (23, .invokevirtual 47, 3), (26, .bipush 94, 2), (28, .if_icmp .ne 7, 3), (31, .iconst 1, 1), (32, .goto 4, 3), (35, .iconst 0, 1), (36, .istore_n 2, 1), (37, .iload_n 2, 1), (38, .ifCond .eq 13, 3), (41, .aload_n 0, 1), (42, .dup, 1), (43, .getfield 28, 3), (46, .iconst 1, 1), (47, .iadd, 1), (48, .putfield 28, 3), (51, .aload_n 0, 1), (52, .iconst 0, 1), (53, .invokevirtual 47, 3), (56, .bipush 93, 2), (58, .if_icmp .ne 11, 3), (61, .aload_n 0, 1), (62, .aload_n 0, 1), (63, .getfield 28, 3), (66, .invokevirtual 50, 3), (69, .iconst 0, 1), (70, .istore_n 3, 1), (71, .iload_n 3, 1), (72, .sipush 201, 3), (75, .if_icmp .ge 31, 3), (78, .aload_n 0, 1), (79, .invokevirtual 68, 3), (82, .ifCond .ne 24, 3), (85, .aload_n 0, 1), (86, .iconst 0, 1), (87, .invokevirtual 47, 3), (90, .bipush 93, 2), (92, .if_icmp .eq 14, 3), (95, .aload_n 0, 1), (96, .iload_n 1, 1), (97, .invokevirtual 133, 3), (100, .iinc 3 1, 3), (103, .goto (-32), 3), (106, .aload_n 0, 1), (107, .dup, 1), (108, .getfield 28, 3), (111, .iconst 1, 1), (112, .iadd, 1), (113, .putfield 28, 3), (116, .iload_n 2, 1), (117, .ifCond .eq 14, 3), (120, .aload_n 0, 1), (121, .getfield 9, 3), (124, .invokevirtual 121, 3), (127, .iload_n 1, 1), (128, .invokevirtual 136, 3), (131, .aload_n 0, 1), (132, .getfield 9, 3), (135, .iconst 2, 1), (136, .iload_n 1, 1), (137, .iconst 0, 1), (138, .iconst 1, 1), (139, .invokevirtual 76, 3), (142, .ireturn, 1)]
set_option maxRecDepth 100000 in
theorem dt_Re_readSet : q_ck n_Re_readSet t_Re_readSet = true := by decide +kernel
def c_Re_readSet_131 (h1 : qH) (d : Nat) (x1 : Int) (B : qB) (Q : qO → qB → Prop) : Prop := 1 ≤ B 90 8 ∧ B 90 8 ≤ 408 ∧ Q (.inl (some (iv (adV B)))) (adT B 2 x1 0 1)
theorem c_Re_readSet_131_ok {h1 : qH} {d : Nat} {x1 : Int} {B : qB} {Q : qO → qB → Prop} (hd : 2 ≤ d) (hS : SH B) (w : c_Re_readSet_131 h1 d x1 B Q) : qY h1 (d + 1) n_Re_readSet 131 [some (.ref 100), some (iv x1), none, none] [] B Q := by
  unfold c_Re_readSet_131 at w
  obtain ⟨p1, p2, w⟩ := w
  refine y_ldk (ok := q_isA) (n := 0) (ck_at dt_Re_readSet 68 rfl) rfl rfl (fun _ => rfl) rfl rfl ?_
  refine y_getF (r := 90) (K := 6) (j := 0) (a := 100) (ck_at dt_Re_readSet 69 rfl) own_Re_readSet (cf_at 22 rfl) rfl rfl ⟨(SH.o hS ⟨by decide, by decide, by decide⟩), ?_⟩
  refine y_op (ck_at dt_Re_readSet 70 rfl) rfl (o_const _) ?_
  refine y_ldk (ok := q_isI) (n := 1) (ck_at dt_Re_readSet 71 rfl) rfl rfl (fun _ => rfl) rfl rfl ?_
  refine y_op (ck_at dt_Re_readSet 72 rfl) rfl (o_const _) ?_
  refine y_op (ck_at dt_Re_readSet 73 rfl) rfl (o_const _) ?_
  refine y_virtP (k' := n_Tr_add) (n := 1) (as := [iv 2, iv x1, iv 0, iv 1]) (r := []) (ck_at dt_Re_readSet 74 rfl) own_Re_readSet (cm_at 49 rfl) vk_Tr_add rfl nl_Tr_add rfl rfl rfl rfl (SH.o hS ⟨by decide, by decide, by decide⟩) (Y_Tr_add (by omega) hS p1 p2 ⟨by decide, by decide⟩ ⟨rfl, rfl⟩) ?_
  have hS3 : SH (adT B 2 x1 0 1) := S_Tr_add hS p1 p2 ⟨by decide, by decide⟩
  exact y_retI (ck_at dt_Re_readSet 75 rfl) rt_Re_readSet w
def c_Re_readSet_106 (h1 : qH) (d : Nat) (x1 : Int) (x2 : Int) (B : qB) (Q : qO → qB → Prop) : Prop := R32 x2 ∧ (x2 = 0 → c_Re_readSet_131 h1 d x1 (u2 B 100 2 ((B 100 2) + 1)) Q) ∧ (¬ x2 = 0 → qY h1 d n_Se_turnRound 0 [some (.ref 98), some (iv x1), none, none] [] (u2 B 100 2 ((B 100 2) + 1)) (fun o B' => o = .inl none ∧ SH B' ∧ c_Re_readSet_131 h1 d x1 B' Q))
theorem c_Re_readSet_106_ok {h1 : qH} {d : Nat} {x1 : Int} {x2 : Int} {B : qB} {Q : qO → qB → Prop} (hd : 2 ≤ d) (hS : SH B) (w : c_Re_readSet_106 h1 d x1 x2 B Q) : qY h1 (d + 1) n_Re_readSet 106 [some (.ref 100), some (iv x1), some (iv x2), none] [] B Q := by
  unfold c_Re_readSet_106 at w
  obtain ⟨p2, w⟩ := w
  refine y_ldk (ok := q_isA) (n := 0) (ck_at dt_Re_readSet 55 rfl) rfl rfl (fun _ => rfl) rfl rfl ?_
  refine y_op (ck_at dt_Re_readSet 56 rfl) rfl rfl ?_
  refine y_getI (K := 6) (j := 2) (a := 100) (ck_at dt_Re_readSet 57 rfl) own_Re_readSet (cf_at 25 rfl) rfl rfl rfl ⟨(SH.o hS ⟨by decide, by decide, by decide⟩), ?_⟩
  refine y_op (ck_at dt_Re_readSet 58 rfl) rfl (o_const _) ?_
  refine y_op (ck_at dt_Re_readSet 59 rfl) rfl o_iadd ?_
  refine y_putI (K := 6) (j := 2) (a := 100) (ck_at dt_Re_readSet 60 rfl) own_Re_readSet (cf_at 25 rfl) rfl rfl rfl rfl rfl ⟨⟨SH.o hS ⟨by decide, by decide, by decide⟩, by decide⟩, ?_⟩
  have hS1 := SH_u2 (b := 100) (x := 2) (z := (B 100 2) + 1) hS (by decide)
  refine y_ldk (ok := q_isI) (n := 2) (ck_at dt_Re_readSet 61 rfl) rfl rfl (fun _ => rfl) rfl rfl ?_
  refine y_ifz (t := 131) (ck_at dt_Re_readSet 62 rfl) rfl p2 ?_ ?_
  · intro q; have w := w.1 q
    exact y_wk (c_Re_readSet_131_ok (by omega) hS1 w) ⟨rfl, ⟨rfl, trivial⟩⟩
  · intro q; have w := w.2 q
    refine y_ldk (ok := q_isA) (n := 0) (ck_at dt_Re_readSet 63 rfl) rfl rfl (fun _ => rfl) rfl rfl ?_
    refine y_getF (r := 90) (K := 6) (j := 0) (a := 100) (ck_at dt_Re_readSet 64 rfl) own_Re_readSet (cf_at 22 rfl) rfl rfl ⟨(SH.o hS1 ⟨by decide, by decide, by decide⟩), ?_⟩
    refine y_virtP (k' := n_Tr_sets) (n := 0) (as := []) (r := []) (ck_at dt_Re_readSet 65 rfl) own_Re_readSet (cm_at 63 rfl) vk_Tr_sets rfl nl_Tr_sets rfl rfl rfl rfl (SH.o hS1 ⟨by decide, by decide, by decide⟩) (Y_Tr_sets (by omega) hS1 ⟨rfl, rfl⟩) ?_
    refine y_ldk (ok := q_isI) (n := 1) (ck_at dt_Re_readSet 66 rfl) rfl rfl (fun _ => rfl) rfl rfl ?_
    refine y_virt (k' := n_Se_turnRound) (n := 2) (as := [iv x1]) (r := []) (ck_at dt_Re_readSet 67 rfl) own_Re_readSet (cm_at 67 rfl) vk_Se_turnRound rfl nl_Se_turnRound rfl rfl rfl rfl ⟨(SH.o hS1 ⟨by decide, by decide, by decide⟩), ?_⟩
    exact w.mono (Nat.le_refl _) (fun o B' ⟨ho, hS', w⟩ => Or.inl ⟨none, ho, y_wk (c_Re_readSet_131_ok (by omega) hS' w) ⟨rfl, ⟨rfl, trivial⟩⟩⟩)
def c_Re_readSet_100 (h1 : qH) (d : Nat) (x1 : Int) (x2 : Int) (x3 : Int) (B : qB) (Q : qO → qB → Prop) : Prop := qY h1 (d + 1) n_Re_readSet 71 [some (.ref 100), some (iv x1), some (iv x2), some (iv (x3 + 1))] [] B Q
theorem c_Re_readSet_100_ok {h1 : qH} {d : Nat} {x1 : Int} {x2 : Int} {x3 : Int} {B : qB} {Q : qO → qB → Prop} (hd : 2 ≤ d) (hS : SH B) (w : c_Re_readSet_100 h1 d x1 x2 x3 B Q) : qY h1 (d + 1) n_Re_readSet 100 [some (.ref 100), some (iv x1), some (iv x2), some (iv x3)] [] B Q := by
  unfold c_Re_readSet_100 at w
  refine y_iinc (n := 3) (L' := [some (.ref 100), some (iv x1), some (iv x2), some (iv (x3 + 1))]) (ck_at dt_Re_readSet 53 rfl) rfl nl_Re_readSet (by decide) rfl rfl ?_
  refine y_goto (t := 71) (ck_at dt_Re_readSet 54 rfl) rfl ?_
  exact y_wk w ⟨rfl, ⟨rfl, ⟨rfl, ⟨rfl, trivial⟩⟩⟩⟩
def c_Re_readSet_71 (h1 : qH) (d : Nat) (x1 : Int) (x2 : Int) (x3 : Int) (B : qB) (Q : qO → qB → Prop) : Prop := R32 x3 ∧ (x3 ≥ 201 → c_Re_readSet_106 h1 d x1 x2 B Q) ∧ (x3 < 201 → R32 (B 100 3) ∧ (¬ bi (decide (¬ B 100 3 = (-1))) = 0 → c_Re_readSet_106 h1 d x1 x2 B Q) ∧ (bi (decide (¬ B 100 3 = (-1))) = 0 → RI B ∧ R32 (sgC B (B 100 2 + 0)) ∧ (sgC B (B 100 2 + 0) = 93 → c_Re_readSet_106 h1 d x1 x2 B Q) ∧ (¬ sgC B (B 100 2 + 0) = 93 → qY h1 d n_Re_readMember 0 [some (.ref 100), some (iv x1), none] [] B (fun o B' => o = .inl none ∧ SH B' ∧ c_Re_readSet_100 h1 d x1 x2 x3 B' Q))))
theorem c_Re_readSet_71_ok {h1 : qH} {d : Nat} {x1 : Int} {x2 : Int} {x3 : Int} {B : qB} {Q : qO → qB → Prop} (hd : 2 ≤ d) (hS : SH B) (w : c_Re_readSet_71 h1 d x1 x2 x3 B Q) : qY h1 (d + 1) n_Re_readSet 71 [some (.ref 100), some (iv x1), some (iv x2), some (iv x3)] [] B Q := by
  unfold c_Re_readSet_71 at w
  obtain ⟨p1, w⟩ := w
  refine y_ldk (ok := q_isI) (n := 3) (ck_at dt_Re_readSet 39 rfl) rfl rfl (fun _ => rfl) rfl rfl ?_
  refine y_op (ck_at dt_Re_readSet 40 rfl) rfl (o_sipush _ (by decide)) ?_
  refine y_icmp (t := 106) (ck_at dt_Re_readSet 41 rfl) rfl p1 ⟨by decide, by decide⟩ ?_ ?_
  · intro q; have w := w.1 q
    exact y_wk (c_Re_readSet_106_ok (by omega) hS w) ⟨rfl, ⟨rfl, ⟨rfl, trivial⟩⟩⟩
  · intro q; have w := w.2 q
    obtain ⟨p2, w⟩ := w
    refine y_ldk (ok := q_isA) (n := 0) (ck_at dt_Re_readSet 42 rfl) rfl rfl (fun _ => rfl) rfl rfl ?_
    refine y_virtP (k' := n_Re_isBroken) (n := 0) (as := []) (r := []) (ck_at dt_Re_readSet 43 rfl) own_Re_readSet (cm_at 47 rfl) vk_Re_isBroken rfl nl_Re_isBroken rfl rfl rfl rfl (SH.o hS ⟨by decide, by decide, by decide⟩) (Y_Re_isBroken (by omega) hS p2 ⟨rfl, rfl⟩) ?_
    refine y_ifz (t := 106) (ck_at dt_Re_readSet 44 rfl) rfl (R32_bi _) ?_ ?_
    · intro q; have w := w.1 q
      exact y_wk (c_Re_readSet_106_ok (by omega) hS w) ⟨rfl, ⟨rfl, ⟨rfl, trivial⟩⟩⟩
    · intro q; have w := w.2 q
      obtain ⟨p3, p4, w⟩ := w
      refine y_ldk (ok := q_isA) (n := 0) (ck_at dt_Re_readSet 45 rfl) rfl rfl (fun _ => rfl) rfl rfl ?_
      refine y_op (ck_at dt_Re_readSet 46 rfl) rfl (o_const _) ?_
      refine y_virtP (k' := n_Re_see) (n := 2) (as := [iv 0]) (r := []) (ck_at dt_Re_readSet 47 rfl) own_Re_readSet (cm_at 41 rfl) vk_Re_see rfl nl_Re_see rfl rfl rfl rfl (SH.o hS ⟨by decide, by decide, by decide⟩) (Y_Re_see (by omega) hS p3 (by decide) (by decide) ⟨rfl, rfl⟩) ?_
      refine y_op (ck_at dt_Re_readSet 48 rfl) rfl (o_bipush _ (by decide)) ?_
      refine y_icmp (t := 106) (ck_at dt_Re_readSet 49 rfl) rfl p4 ⟨by decide, by decide⟩ ?_ ?_
      · intro q; have w := w.1 q
        exact y_wk (c_Re_readSet_106_ok (by omega) hS w) ⟨rfl, ⟨rfl, ⟨rfl, trivial⟩⟩⟩
      · intro q; have w := w.2 q
        refine y_ldk (ok := q_isA) (n := 0) (ck_at dt_Re_readSet 50 rfl) rfl rfl (fun _ => rfl) rfl rfl ?_
        refine y_ldk (ok := q_isI) (n := 1) (ck_at dt_Re_readSet 51 rfl) rfl rfl (fun _ => rfl) rfl rfl ?_
        refine y_virt (k' := n_Re_readMember) (n := 1) (as := [iv x1]) (r := []) (ck_at dt_Re_readSet 52 rfl) own_Re_readSet (cm_at 66 rfl) vk_Re_readMember rfl nl_Re_readMember rfl rfl rfl rfl ⟨(SH.o hS ⟨by decide, by decide, by decide⟩), ?_⟩
        exact w.mono (Nat.le_refl _) (fun o B' ⟨ho, hS', w⟩ => Or.inl ⟨none, ho, y_wk (c_Re_readSet_100_ok (by omega) hS' w) ⟨rfl, ⟨rfl, ⟨rfl, ⟨rfl, trivial⟩⟩⟩⟩⟩)
def c_Re_readSet_69 (h1 : qH) (d : Nat) (x1 : Int) (x2 : Int) (B : qB) (Q : qO → qB → Prop) : Prop := qY h1 (d + 1) n_Re_readSet 71 [some (.ref 100), some (iv x1), some (iv x2), some (iv 0)] [] B Q
theorem c_Re_readSet_69_ok {h1 : qH} {d : Nat} {x1 : Int} {x2 : Int} {B : qB} {Q : qO → qB → Prop} (hd : 2 ≤ d) (hS : SH B) (w : c_Re_readSet_69 h1 d x1 x2 B Q) : qY h1 (d + 1) n_Re_readSet 69 [some (.ref 100), some (iv x1), some (iv x2), none] [] B Q := by
  unfold c_Re_readSet_69 at w
  refine y_op (ck_at dt_Re_readSet 37 rfl) rfl (o_const _) ?_
  refine y_st1 (ok := q_isI) (n := 3) (L' := [some (.ref 100), some (iv x1), some (iv x2), some (iv 0)]) (ck_at dt_Re_readSet 38 rfl) rfl (fun _ => rfl) (fun _ _ => rfl) rfl nl_Re_readSet (by decide) rfl rfl ?_
  exact y_wk w ⟨rfl, ⟨rfl, ⟨rfl, ⟨rfl, trivial⟩⟩⟩⟩
def c_Re_readSet_51 (h1 : qH) (d : Nat) (x1 : Int) (x2 : Int) (B : qB) (Q : qO → qB → Prop) : Prop := RI B ∧ R32 (sgC B (B 100 2 + 0)) ∧ (¬ sgC B (B 100 2 + 0) = 93 → c_Re_readSet_69 h1 d x1 x2 B Q) ∧ (sgC B (B 100 2 + 0) = 93 → R32 (B 100 3) ∧ c_Re_readSet_69 h1 d x1 x2 (brC B (B 100 2)) Q)
theorem c_Re_readSet_51_ok {h1 : qH} {d : Nat} {x1 : Int} {x2 : Int} {B : qB} {Q : qO → qB → Prop} (hd : 2 ≤ d) (hS : SH B) (w : c_Re_readSet_51 h1 d x1 x2 B Q) : qY h1 (d + 1) n_Re_readSet 51 [some (.ref 100), some (iv x1), some (iv x2), none] [] B Q := by
  unfold c_Re_readSet_51 at w
  obtain ⟨p1, p2, w⟩ := w
  refine y_ldk (ok := q_isA) (n := 0) (ck_at dt_Re_readSet 28 rfl) rfl rfl (fun _ => rfl) rfl rfl ?_
  refine y_op (ck_at dt_Re_readSet 29 rfl) rfl (o_const _) ?_
  refine y_virtP (k' := n_Re_see) (n := 2) (as := [iv 0]) (r := []) (ck_at dt_Re_readSet 30 rfl) own_Re_readSet (cm_at 41 rfl) vk_Re_see rfl nl_Re_see rfl rfl rfl rfl (SH.o hS ⟨by decide, by decide, by decide⟩) (Y_Re_see (by omega) hS p1 (by decide) (by decide) ⟨rfl, rfl⟩) ?_
  refine y_op (ck_at dt_Re_readSet 31 rfl) rfl (o_bipush _ (by decide)) ?_
  refine y_icmp (t := 69) (ck_at dt_Re_readSet 32 rfl) rfl p2 ⟨by decide, by decide⟩ ?_ ?_
  · intro q; have w := w.1 q
    exact y_wk (c_Re_readSet_69_ok (by omega) hS w) ⟨rfl, ⟨rfl, ⟨rfl, trivial⟩⟩⟩
  · intro q; have w := w.2 q
    obtain ⟨p3, w⟩ := w
    refine y_ldk (ok := q_isA) (n := 0) (ck_at dt_Re_readSet 33 rfl) rfl rfl (fun _ => rfl) rfl rfl ?_
    refine y_ldk (ok := q_isA) (n := 0) (ck_at dt_Re_readSet 34 rfl) rfl rfl (fun _ => rfl) rfl rfl ?_
    refine y_getI (K := 6) (j := 2) (a := 100) (ck_at dt_Re_readSet 35 rfl) own_Re_readSet (cf_at 25 rfl) rfl rfl rfl ⟨(SH.o hS ⟨by decide, by decide, by decide⟩), ?_⟩
    refine y_virtV (k' := n_Re_breakAt) (n := 0) (as := [iv (B 100 2)]) (r := []) (ck_at dt_Re_readSet 36 rfl) own_Re_readSet (cm_at 42 rfl) vk_Re_breakAt rfl nl_Re_breakAt rfl rfl rfl rfl (SH.o hS ⟨by decide, by decide, by decide⟩) (Y_Re_breakAt (by omega) hS p3 ⟨rfl, rfl⟩) ?_
    have hS4 : SH (brC B (B 100 2)) := S_Re_breakAt hS
    exact y_wk (c_Re_readSet_69_ok (by omega) hS4 w) ⟨rfl, ⟨rfl, ⟨rfl, trivial⟩⟩⟩
def c_Re_readSet_36 (h1 : qH) (d : Nat) (x1 : Int) (s0 : Int) (B : qB) (Q : qO → qB → Prop) : Prop := R32 s0 ∧ (s0 = 0 → c_Re_readSet_51 h1 d x1 s0 B Q) ∧ (¬ s0 = 0 → c_Re_readSet_51 h1 d x1 s0 (u2 B 100 2 ((B 100 2) + 1)) Q)
theorem c_Re_readSet_36_ok {h1 : qH} {d : Nat} {x1 : Int} {s0 : Int} {B : qB} {Q : qO → qB → Prop} (hd : 2 ≤ d) (hS : SH B) (w : c_Re_readSet_36 h1 d x1 s0 B Q) : qY h1 (d + 1) n_Re_readSet 36 [some (.ref 100), some (iv x1), none, none] [iv s0] B Q := by
  unfold c_Re_readSet_36 at w
  obtain ⟨p1, w⟩ := w
  refine y_st1 (ok := q_isI) (n := 2) (L' := [some (.ref 100), some (iv x1), some (iv s0), none]) (ck_at dt_Re_readSet 19 rfl) rfl (fun _ => rfl) (fun _ _ => rfl) rfl nl_Re_readSet (by decide) rfl rfl ?_
  refine y_ldk (ok := q_isI) (n := 2) (ck_at dt_Re_readSet 20 rfl) rfl rfl (fun _ => rfl) rfl rfl ?_
  refine y_ifz (t := 51) (ck_at dt_Re_readSet 21 rfl) rfl p1 ?_ ?_
  · intro q; have w := w.1 q
    exact y_wk (c_Re_readSet_51_ok (by omega) hS w) ⟨rfl, ⟨rfl, ⟨rfl, trivial⟩⟩⟩
  · intro q; have w := w.2 q
    refine y_ldk (ok := q_isA) (n := 0) (ck_at dt_Re_readSet 22 rfl) rfl rfl (fun _ => rfl) rfl rfl ?_
    refine y_op (ck_at dt_Re_readSet 23 rfl) rfl rfl ?_
    refine y_getI (K := 6) (j := 2) (a := 100) (ck_at dt_Re_readSet 24 rfl) own_Re_readSet (cf_at 25 rfl) rfl rfl rfl ⟨(SH.o hS ⟨by decide, by decide, by decide⟩), ?_⟩
    refine y_op (ck_at dt_Re_readSet 25 rfl) rfl (o_const _) ?_
    refine y_op (ck_at dt_Re_readSet 26 rfl) rfl o_iadd ?_
    refine y_putI (K := 6) (j := 2) (a := 100) (ck_at dt_Re_readSet 27 rfl) own_Re_readSet (cf_at 25 rfl) rfl rfl rfl rfl rfl ⟨⟨SH.o hS ⟨by decide, by decide, by decide⟩, by decide⟩, ?_⟩
    have hS2 := SH_u2 (b := 100) (x := 2) (z := (B 100 2) + 1) hS (by decide)
    exact y_wk (c_Re_readSet_51_ok (by omega) hS2 w) ⟨rfl, ⟨rfl, ⟨rfl, trivial⟩⟩⟩
def c_Re_readSet_10 (h1 : qH) (d : Nat) (s0 : Int) (B : qB) (Q : qO → qB → Prop) : Prop := RI (u2 B 100 2 ((B 100 2) + 1)) ∧ R32 (sgC (u2 B 100 2 ((B 100 2) + 1)) ((u2 B 100 2 ((B 100 2) + 1)) 100 2 + 0)) ∧ (¬ sgC (u2 B 100 2 ((B 100 2) + 1)) ((u2 B 100 2 ((B 100 2) + 1)) 100 2 + 0) = 94 → c_Re_readSet_36 h1 d s0 0 (u2 B 100 2 ((B 100 2) + 1)) Q) ∧ (sgC (u2 B 100 2 ((B 100 2) + 1)) ((u2 B 100 2 ((B 100 2) + 1)) 100 2 + 0) = 94 → c_Re_readSet_36 h1 d s0 1 (u2 B 100 2 ((B 100 2) + 1)) Q)
theorem c_Re_readSet_10_ok {h1 : qH} {d : Nat} {s0 : Int} {B : qB} {Q : qO → qB → Prop} (hd : 2 ≤ d) (hS : SH B) (w : c_Re_readSet_10 h1 d s0 B Q) : qY h1 (d + 1) n_Re_readSet 10 [some (.ref 100), none, none, none] [iv s0] B Q := by
  unfold c_Re_readSet_10 at w
  obtain ⟨p2, p3, w⟩ := w
  refine y_st1 (ok := q_isI) (n := 1) (L' := [some (.ref 100), some (iv s0), none, none]) (ck_at dt_Re_readSet 4 rfl) rfl (fun _ => rfl) (fun _ _ => rfl) rfl nl_Re_readSet (by decide) rfl rfl ?_
  refine y_ldk (ok := q_isA) (n := 0) (ck_at dt_Re_readSet 5 rfl) rfl rfl (fun _ => rfl) rfl rfl ?_
  refine y_op (ck_at dt_Re_readSet 6 rfl) rfl rfl ?_
  refine y_getI (K := 6) (j := 2) (a := 100) (ck_at dt_Re_readSet 7 rfl) own_Re_readSet (cf_at 25 rfl) rfl rfl rfl ⟨(SH.o hS ⟨by decide, by decide, by decide⟩), ?_⟩
  refine y_op (ck_at dt_Re_readSet 8 rfl) rfl (o_const _) ?_
  refine y_op (ck_at dt_Re_readSet 9 rfl) rfl o_iadd ?_
  refine y_putI (K := 6) (j := 2) (a := 100) (ck_at dt_Re_readSet 10 rfl) own_Re_readSet (cf_at 25 rfl) rfl rfl rfl rfl rfl ⟨⟨SH.o hS ⟨by decide, by decide, by decide⟩, by decide⟩, ?_⟩
  have hS1 := SH_u2 (b := 100) (x := 2) (z := (B 100 2) + 1) hS (by decide)
  refine y_ldk (ok := q_isA) (n := 0) (ck_at dt_Re_readSet 11 rfl) rfl rfl (fun _ => rfl) rfl rfl ?_
  refine y_op (ck_at dt_Re_readSet 12 rfl) rfl (o_const _) ?_
  refine y_virtP (k' := n_Re_see) (n := 2) (as := [iv 0]) (r := []) (ck_at dt_Re_readSet 13 rfl) own_Re_readSet (cm_at 41 rfl) vk_Re_see rfl nl_Re_see rfl rfl rfl rfl (SH.o hS1 ⟨by decide, by decide, by decide⟩) (Y_Re_see (by omega) hS1 p2 (by decide) (by decide) ⟨rfl, rfl⟩) ?_
  refine y_op (ck_at dt_Re_readSet 14 rfl) rfl (o_bipush _ (by decide)) ?_
  refine y_icmp (t := 35) (ck_at dt_Re_readSet 15 rfl) rfl p3 ⟨by decide, by decide⟩ ?_ ?_
  · intro q; have w := w.1 q
    refine y_op (ck_at dt_Re_readSet 18 rfl) rfl (o_const _) ?_
    exact y_wk (c_Re_readSet_36_ok (by omega) hS1 w) ⟨rfl, ⟨rfl, trivial⟩⟩
  · intro q; have w := w.2 q
    refine y_op (ck_at dt_Re_readSet 16 rfl) rfl (o_const _) ?_
    refine y_goto (t := 36) (ck_at dt_Re_readSet 17 rfl) rfl ?_
    exact y_wk (c_Re_readSet_36_ok (by omega) hS1 w) ⟨rfl, ⟨rfl, trivial⟩⟩
def c_Re_readSet_0 (h1 : qH) (d : Nat) (B : qB) (Q : qO → qB → Prop) : Prop := qY h1 d n_Se_open 0 [some (.ref 98), none, none] [] B (fun o B' => ∃ v : Int, o = .inl (some (iv v)) ∧ SH B' ∧ c_Re_readSet_10 h1 d v B' Q)
theorem c_Re_readSet_0_ok {h1 : qH} {d : Nat} {B : qB} {Q : qO → qB → Prop} (hd : 2 ≤ d) (hS : SH B) (w : c_Re_readSet_0 h1 d B Q) : qY h1 (d + 1) n_Re_readSet 0 [some (.ref 100), none, none, none] [] B Q := by
  unfold c_Re_readSet_0 at w
  refine y_ldk (ok := q_isA) (n := 0) (ck_at dt_Re_readSet 0 rfl) rfl rfl (fun _ => rfl) rfl rfl ?_
  refine y_getF (r := 90) (K := 6) (j := 0) (a := 100) (ck_at dt_Re_readSet 1 rfl) own_Re_readSet (cf_at 22 rfl) rfl rfl ⟨(SH.o hS ⟨by decide, by decide, by decide⟩), ?_⟩
  refine y_virtP (k' := n_Tr_sets) (n := 0) (as := []) (r := []) (ck_at dt_Re_readSet 2 rfl) own_Re_readSet (cm_at 63 rfl) vk_Tr_sets rfl nl_Tr_sets rfl rfl rfl rfl (SH.o hS ⟨by decide, by decide, by decide⟩) (Y_Tr_sets (by omega) hS ⟨rfl, rfl⟩) ?_
  refine y_virt (k' := n_Se_open) (n := 2) (as := []) (r := []) (ck_at dt_Re_readSet 3 rfl) own_Re_readSet (cm_at 64 rfl) vk_Se_open rfl nl_Se_open rfl rfl rfl rfl ⟨(SH.o hS ⟨by decide, by decide, by decide⟩), ?_⟩
  exact w.mono (Nat.le_refl _) (fun o B' ⟨v, ho, hS', w⟩ => Or.inl ⟨some (iv v), ho, y_wk (c_Re_readSet_10_ok (by omega) hS' w) ⟨rfl, trivial⟩⟩)
/-! PatternTrier$Reader.readNumber(I)I -/
def t_Re_readNumber : List (Nat × Instr × Nat) := [(0, .aload_n 0, 1), (1, .getfield 28, 3), (4, .istore_n 2, 1), (5, .aload_n 0, 1), (6, .iconst 0, 1), (7, .invokevirtual 47, 3), (10, .invokestatic 118, 3), (13, .ifCond .ne 13, 3), (16, .aload_n 0, 1), (17, .aload_n 0, 1), (18, .getfield 28, 3), (21, .invokevirtual 50, 3), (24, .iconst 0, 1), (25, .ireturn, 1), (26, .aload_n 0, 1), (27, .iconst 0, 1), (28, .invokevirtual 47, 3), (31, .bipush 48, 2), (33, .isub, 1), (34, .istore_n 3, 1), (35, .aload_n 0, 1), (36, .dup, 1), (37, .getfield 28, 3), (40, .iconst 1, 1), (41, .iadd, 1), (42, .putfield 28, 3), (45, .iconst 0, 1), (46, .istore 4, 2), (48, .iload 4, 2), (50, .sipush 200, 3), (53, .if_icmp .ge 53, 3), (56, .iload_n 3, 1), (57, .ifCond .le 49, 3), (60, .aload_n 0, 1), (61, .iconst 0, 1), (62, .invokevirtual 47, 3), (65, .invokestatic 118, 3), (68, .ifCond .eq 38, 3), (71, .iload_n 3, 1), (72, .bipush 10, 2), (74, .imul, 1), (75, .aload_n 0, 1), (76, .iconst 0, 1), (77, .invokevirtual 47, 3), (80, .iadd, 1), (81, .bipush 48, 2), (83, .isub, 1), (84, .bipush 21, 2), (86, .invokestatic 158, 3), (89, .istore_n 3, 1), (90, .aload_n 0, 1), (91, .dup, 1), (92, .getfield 28, 3), (95, .iconst 1, 1), (96, .iadd, 1), (97, .putfield 28, 3), (100, .iinc 4 1, 3), (103, .goto (-55), 3), (106, .iload_n 3, 1), (107, .bipush 20, 2), (109, .if_icmp .gt 8, 3), (112, .iload_n 3, 1), (113, .iload_n 1, 1), (114, .if_icmp .ge 8, 3), (117, .aload_n 0, 1), (118, .iload_n 2, 1), (119, .invokevirtual 50, 3), (122, .iload_n 3, 1), (123, .ireturn, 1)]
set_option maxRecDepth 100000 in
theorem dt_Re_readNumber : q_ck n_Re_readNumber t_Re_readNumber = true := by decide +kernel
def c_Re_readNumber_106 (h1 : qH) (d : Nat) (x1 : Int) (x2 : Int) (x3 : Int) (B : qB) (Q : qO → qB → Prop) : Prop := R32 x3 ∧ (x3 > 20 → R32 (B 100 3) ∧ Q (.inl (some (iv x3))) (brC B x2)) ∧ (x3 ≤ 20 → R32 x1 ∧ (x3 ≥ x1 → Q (.inl (some (iv x3))) B) ∧ (x3 < x1 → R32 (B 100 3) ∧ Q (.inl (some (iv x3))) (brC B x2)))
theorem c_Re_readNumber_106_ok {h1 : qH} {d : Nat} {x1 : Int} {x2 : Int} {x3 : Int} {B : qB} {Q : qO → qB → Prop} (hd : 2 ≤ d) (hS : SH B) (w : c_Re_readNumber_106 h1 d x1 x2 x3 B Q) : qY h1 (d + 1) n_Re_readNumber 106 [some (.ref 100), some (iv x1), some (iv x2), some (iv x3), none] [] B Q := by
  unfold c_Re_readNumber_106 at w
  obtain ⟨p1, w⟩ := w
  refine y_ldk (ok := q_isI) (n := 3) (ck_at dt_Re_readNumber 58 rfl) rfl rfl (fun _ => rfl) rfl rfl ?_
  refine y_op (ck_at dt_Re_readNumber 59 rfl) rfl (o_bipush _ (by decide)) ?_
  refine y_icmp (t := 117) (ck_at dt_Re_readNumber 60 rfl) rfl p1 ⟨by decide, by decide⟩ ?_ ?_
  · intro q; have w := w.1 q
    obtain ⟨p2, w⟩ := w
    refine y_ldk (ok := q_isA) (n := 0) (ck_at dt_Re_readNumber 64 rfl) rfl rfl (fun _ => rfl) rfl rfl ?_
    refine y_ldk (ok := q_isI) (n := 2) (ck_at dt_Re_readNumber 65 rfl) rfl rfl (fun _ => rfl) rfl rfl ?_
    refine y_virtV (k' := n_Re_breakAt) (n := 0) (as := [iv x2]) (r := []) (ck_at dt_Re_readNumber 66 rfl) own_Re_readNumber (cm_at 42 rfl) vk_Re_breakAt rfl nl_Re_breakAt rfl rfl rfl rfl (SH.o hS ⟨by decide, by decide, by decide⟩) (Y_Re_breakAt (by omega) hS p2 ⟨rfl, rfl⟩) ?_
    have hS3 : SH (brC B x2) := S_Re_breakAt hS
    refine y_ldk (ok := q_isI) (n := 3) (ck_at dt_Re_readNumber 67 rfl) rfl rfl (fun _ => rfl) rfl rfl ?_
    exact y_retI (ck_at dt_Re_readNumber 68 rfl) rt_Re_readNumber w
  · intro q; have w := w.2 q
    obtain ⟨p4, w⟩ := w
    refine y_ldk (ok := q_isI) (n := 3) (ck_at dt_Re_readNumber 61 rfl) rfl rfl (fun _ => rfl) rfl rfl ?_
    refine y_ldk (ok := q_isI) (n := 1) (ck_at dt_Re_readNumber 62 rfl) rfl rfl (fun _ => rfl) rfl rfl ?_
    refine y_icmp (t := 122) (ck_at dt_Re_readNumber 63 rfl) rfl p1 p4 ?_ ?_
    · intro q; have w := w.1 q
      refine y_ldk (ok := q_isI) (n := 3) (ck_at dt_Re_readNumber 67 rfl) rfl rfl (fun _ => rfl) rfl rfl ?_
      exact y_retI (ck_at dt_Re_readNumber 68 rfl) rt_Re_readNumber w
    · intro q; have w := w.2 q
      obtain ⟨p5, w⟩ := w
      refine y_ldk (ok := q_isA) (n := 0) (ck_at dt_Re_readNumber 64 rfl) rfl rfl (fun _ => rfl) rfl rfl ?_
      refine y_ldk (ok := q_isI) (n := 2) (ck_at dt_Re_readNumber 65 rfl) rfl rfl (fun _ => rfl) rfl rfl ?_
      refine y_virtV (k' := n_Re_breakAt) (n := 0) (as := [iv x2]) (r := []) (ck_at dt_Re_readNumber 66 rfl) own_Re_readNumber (cm_at 42 rfl) vk_Re_breakAt rfl nl_Re_breakAt rfl rfl rfl rfl (SH.o hS ⟨by decide, by decide, by decide⟩) (Y_Re_breakAt (by omega) hS p5 ⟨rfl, rfl⟩) ?_
      have hS6 : SH (brC B x2) := S_Re_breakAt hS
      refine y_ldk (ok := q_isI) (n := 3) (ck_at dt_Re_readNumber 67 rfl) rfl rfl (fun _ => rfl) rfl rfl ?_
      exact y_retI (ck_at dt_Re_readNumber 68 rfl) rt_Re_readNumber w
def c_Re_readNumber_48 (h1 : qH) (d : Nat) (x1 : Int) (x2 : Int) (x3 : Int) (x4 : Int) (B : qB) (Q : qO → qB → Prop) : Prop := R32 x4 ∧ (x4 ≥ 200 → c_Re_readNumber_106 h1 d x1 x2 x3 B Q) ∧ (x4 < 200 → R32 x3 ∧ (x3 ≤ 0 → c_Re_readNumber_106 h1 d x1 x2 x3 B Q) ∧ (x3 > 0 → RI B ∧ R32 (sgC B (B 100 2 + 0)) ∧ (bi (isDg (sgC B (B 100 2 + 0))) = 0 → c_Re_readNumber_106 h1 d x1 x2 x3 B Q) ∧ (¬ bi (isDg (sgC B (B 100 2 + 0))) = 0 → R32 (((x3 * 10) + (sgC B (B 100 2 + 0))) - 48) ∧ qY h1 (d + 1) n_Re_readNumber 48 [some (.ref 100), some (iv x1), some (iv x2), some (iv (min (((x3 * 10) + (sgC B (B 100 2 + 0))) - 48) 21)), some (iv (x4 + 1))] [] (u2 B 100 2 ((B 100 2) + 1)) Q)))
theorem c_Re_readNumber_48_ok {h1 : qH} {d : Nat} {x1 : Int} {x2 : Int} {x3 : Int} {x4 : Int} {B : qB} {Q : qO → qB → Prop} (hd : 2 ≤ d) (hS : SH B) (w : c_Re_readNumber_48 h1 d x1 x2 x3 x4 B Q) : qY h1 (d + 1) n_Re_readNumber 48 [some (.ref 100), some (iv x1), some (iv x2), some (iv x3), some (iv x4)] [] B Q := by
  unfold c_Re_readNumber_48 at w
  obtain ⟨p1, w⟩ := w
  refine y_ldk (ok := q_isI) (n := 4) (ck_at dt_Re_readNumber 28 rfl) rfl rfl (fun _ => rfl) rfl rfl ?_
  refine y_op (ck_at dt_Re_readNumber 29 rfl) rfl (o_sipush _ (by decide)) ?_
  refine y_icmp (t := 106) (ck_at dt_Re_readNumber 30 rfl) rfl p1 ⟨by decide, by decide⟩ ?_ ?_
  · intro q; have w := w.1 q
    exact y_wk (c_Re_readNumber_106_ok (by omega) hS w) ⟨rfl, ⟨rfl, ⟨rfl, ⟨rfl, trivial⟩⟩⟩⟩
  · intro q; have w := w.2 q
    obtain ⟨p2, w⟩ := w
    refine y_ldk (ok := q_isI) (n := 3) (ck_at dt_Re_readNumber 31 rfl) rfl rfl (fun _ => rfl) rfl rfl ?_
    refine y_ifz (t := 106) (ck_at dt_Re_readNumber 32 rfl) rfl p2 ?_ ?_
    · intro q; have w := w.1 q
      exact y_wk (c_Re_readNumber_106_ok (by omega) hS w) ⟨rfl, ⟨rfl, ⟨rfl, ⟨rfl, trivial⟩⟩⟩⟩
    · intro q; have w := w.2 q
      obtain ⟨p3, p4, w⟩ := w
      refine y_ldk (ok := q_isA) (n := 0) (ck_at dt_Re_readNumber 33 rfl) rfl rfl (fun _ => rfl) rfl rfl ?_
      refine y_op (ck_at dt_Re_readNumber 34 rfl) rfl (o_const _) ?_
      refine y_virtP (k' := n_Re_see) (n := 2) (as := [iv 0]) (r := []) (ck_at dt_Re_readNumber 35 rfl) own_Re_readNumber (cm_at 41 rfl) vk_Re_see rfl nl_Re_see rfl rfl rfl rfl (SH.o hS ⟨by decide, by decide, by decide⟩) (Y_Re_see (by omega) hS p3 (by decide) (by decide) ⟨rfl, rfl⟩) ?_
      refine y_stat3P (k' := n_P_isDigit_IZ) (n := 0) (as := [iv (sgC B (B 100 2 + 0))]) (r := []) (ck_at dt_Re_readNumber 36 rfl) own_Re_readNumber (cm_at 62 rfl) (cs_at 15 rfl) vk_P_isDigit_IZ rfl nl_P_isDigit_IZ rfl rfl rfl rfl  (Y_P_isDigit_IZ (by omega) hS p4 ⟨rfl, rfl⟩) ?_
      refine y_ifz (t := 106) (ck_at dt_Re_readNumber 37 rfl) rfl (R32_bi _) ?_ ?_
      · intro q; have w := w.1 q
        exact y_wk (c_Re_readNumber_106_ok (by omega) hS w) ⟨rfl, ⟨rfl, ⟨rfl, ⟨rfl, trivial⟩⟩⟩⟩
      · intro q; have w := w.2 q
        obtain ⟨p5, w⟩ := w
        refine y_ldk (ok := q_isI) (n := 3) (ck_at dt_Re_readNumber 38 rfl) rfl rfl (fun _ => rfl) rfl rfl ?_
        refine y_op (ck_at dt_Re_readNumber 39 rfl) rfl (o_bipush _ (by decide)) ?_
        refine y_op (ck_at dt_Re_readNumber 40 rfl) rfl o_imul ?_
        refine y_ldk (ok := q_isA) (n := 0) (ck_at dt_Re_readNumber 41 rfl) rfl rfl (fun _ => rfl) rfl rfl ?_
        refine y_op (ck_at dt_Re_readNumber 42 rfl) rfl (o_const _) ?_
        refine y_virtP (k' := n_Re_see) (n := 2) (as := [iv 0]) (r := [iv (x3 * 10)]) (ck_at dt_Re_readNumber 43 rfl) own_Re_readNumber (cm_at 41 rfl) vk_Re_see rfl nl_Re_see rfl rfl rfl rfl (SH.o hS ⟨by decide, by decide, by decide⟩) (Y_Re_see (by omega) hS p3 (by decide) (by decide) ⟨rfl, rfl⟩) ?_
        refine y_op (ck_at dt_Re_readNumber 44 rfl) rfl o_iadd ?_
        refine y_op (ck_at dt_Re_readNumber 45 rfl) rfl (o_bipush _ (by decide)) ?_
        refine y_op (ck_at dt_Re_readNumber 46 rfl) rfl o_isub ?_
        refine y_op (ck_at dt_Re_readNumber 47 rfl) rfl (o_bipush _ (by decide)) ?_
        refine y_mm (b := false) (ck_at dt_Re_readNumber 48 rfl) own_Re_readNumber (by decide +kernel) rfl p5 ⟨by decide, by decide⟩ ?_
        rw [if_neg (by decide)]
        refine y_st1 (ok := q_isI) (n := 3) (L' := [some (.ref 100), some (iv x1), some (iv x2), some (iv (min (((x3 * 10) + (sgC B (B 100 2 + 0))) - 48) 21)), some (iv x4)]) (ck_at dt_Re_readNumber 49 rfl) rfl (fun _ => rfl) (fun _ _ => rfl) rfl nl_Re_readNumber (by decide) rfl rfl ?_
        refine y_ldk (ok := q_isA) (n := 0) (ck_at dt_Re_readNumber 50 rfl) rfl rfl (fun _ => rfl) rfl rfl ?_
        refine y_op (ck_at dt_Re_readNumber 51 rfl) rfl rfl ?_
        refine y_getI (K := 6) (j := 2) (a := 100) (ck_at dt_Re_readNumber 52 rfl) own_Re_readNumber (cf_at 25 rfl) rfl rfl rfl ⟨(SH.o hS ⟨by decide, by decide, by decide⟩), ?_⟩
        refine y_op (ck_at dt_Re_readNumber 53 rfl) rfl (o_const _) ?_
        refine y_op (ck_at dt_Re_readNumber 54 rfl) rfl o_iadd ?_
        refine y_putI (K := 6) (j := 2) (a := 100) (ck_at dt_Re_readNumber 55 rfl) own_Re_readNumber (cf_at 25 rfl) rfl rfl rfl rfl rfl ⟨⟨SH.o hS ⟨by decide, by decide, by decide⟩, by decide⟩, ?_⟩
        have hS6 := SH_u2 (b := 100) (x := 2) (z := (B 100 2) + 1) hS (by decide)
        refine y_iinc (n := 4) (L' := [some (.ref 100), some (iv x1), some (iv x2), some (iv (min (((x3 * 10) + (sgC B (B 100 2 + 0))) - 48) 21)), some (iv (x4 + 1))]) (ck_at dt_Re_readNumber 56 rfl) rfl nl_Re_readNumber (by decide) rfl rfl ?_
        refine y_goto (t := 48) (ck_at dt_Re_readNumber 57 rfl) rfl ?_
        exact y_wk w ⟨rfl, ⟨rfl, ⟨rfl, ⟨rfl, ⟨rfl, trivial⟩⟩⟩⟩⟩
def c_Re_readNumber_0 (h1 : qH) (d : Nat) (x1 : Int) (B : qB) (Q : qO → qB → Prop) : Prop := RI B ∧ R32 (sgC B (B 100 2 + 0)) ∧ (¬ bi (isDg (sgC B (B 100 2 + 0))) = 0 → qY h1 (d + 1) n_Re_readNumber 48 [some (.ref 100), some (iv x1), some (iv (B 100 2)), some (iv ((sgC B (B 100 2 + 0)) - 48)), some (iv 0)] [] (u2 B 100 2 ((B 100 2) + 1)) Q) ∧ (bi (isDg (sgC B (B 100 2 + 0))) = 0 → R32 (B 100 3) ∧ Q (.inl (some (iv 0))) (brC B (B 100 2)))
theorem c_Re_readNumber_0_ok {h1 : qH} {d : Nat} {x1 : Int} {B : qB} {Q : qO → qB → Prop} (hd : 2 ≤ d) (hS : SH B) (w : c_Re_readNumber_0 h1 d x1 B Q) : qY h1 (d + 1) n_Re_readNumber 0 [some (.ref 100), some (iv x1), none, none, none] [] B Q := by
  unfold c_Re_readNumber_0 at w
  obtain ⟨p1, p2, w⟩ := w
  refine y_ldk (ok := q_isA) (n := 0) (ck_at dt_Re_readNumber 0 rfl) rfl rfl (fun _ => rfl) rfl rfl ?_
  refine y_getI (K := 6) (j := 2) (a := 100) (ck_at dt_Re_readNumber 1 rfl) own_Re_readNumber (cf_at 25 rfl) rfl rfl rfl ⟨(SH.o hS ⟨by decide, by decide, by decide⟩), ?_⟩
  refine y_st1 (ok := q_isI) (n := 2) (L' := [some (.ref 100), some (iv x1), some (iv (B 100 2)), none, none]) (ck_at dt_Re_readNumber 2 rfl) rfl (fun _ => rfl) (fun _ _ => rfl) rfl nl_Re_readNumber (by decide) rfl rfl ?_
  refine y_ldk (ok := q_isA) (n := 0) (ck_at dt_Re_readNumber 3 rfl) rfl rfl (fun _ => rfl) rfl rfl ?_
  refine y_op (ck_at dt_Re_readNumber 4 rfl) rfl (o_const _) ?_
  refine y_virtP (k' := n_Re_see) (n := 2) (as := [iv 0]) (r := []) (ck_at dt_Re_readNumber 5 rfl) own_Re_readNumber (cm_at 41 rfl) vk_Re_see rfl nl_Re_see rfl rfl rfl rfl (SH.o hS ⟨by decide, by decide, by decide⟩) (Y_Re_see (by omega) hS p1 (by decide) (by decide) ⟨rfl, rfl⟩) ?_
  refine y_stat3P (k' := n_P_isDigit_IZ) (n := 0) (as := [iv (sgC B (B 100 2 + 0))]) (r := []) (ck_at dt_Re_readNumber 6 rfl) own_Re_readNumber (cm_at 62 rfl) (cs_at 15 rfl) vk_P_isDigit_IZ rfl nl_P_isDigit_IZ rfl rfl rfl rfl  (Y_P_isDigit_IZ (by omega) hS p2 ⟨rfl, rfl⟩) ?_
  refine y_ifz (t := 26) (ck_at dt_Re_readNumber 7 rfl) rfl (R32_bi _) ?_ ?_
  · intro q; have w := w.1 q
    refine y_ldk (ok := q_isA) (n := 0) (ck_at dt_Re_readNumber 14 rfl) rfl rfl (fun _ => rfl) rfl rfl ?_
    refine y_op (ck_at dt_Re_readNumber 15 rfl) rfl (o_const _) ?_
    refine y_virtP (k' := n_Re_see) (n := 2) (as := [iv 0]) (r := []) (ck_at dt_Re_readNumber 16 rfl) own_Re_readNumber (cm_at 41 rfl) vk_Re_see rfl nl_Re_see rfl rfl rfl rfl (SH.o hS ⟨by decide, by decide, by decide⟩) (Y_Re_see (by omega) hS p1 (by decide) (by decide) ⟨rfl, rfl⟩) ?_
    refine y_op (ck_at dt_Re_readNumber 17 rfl) rfl (o_bipush _ (by decide)) ?_
    refine y_op (ck_at dt_Re_readNumber 18 rfl) rfl o_isub ?_
    refine y_st1 (ok := q_isI) (n := 3) (L' := [some (.ref 100), some (iv x1), some (iv (B 100 2)), some (iv ((sgC B (B 100 2 + 0)) - 48)), none]) (ck_at dt_Re_readNumber 19 rfl) rfl (fun _ => rfl) (fun _ _ => rfl) rfl nl_Re_readNumber (by decide) rfl rfl ?_
    refine y_ldk (ok := q_isA) (n := 0) (ck_at dt_Re_readNumber 20 rfl) rfl rfl (fun _ => rfl) rfl rfl ?_
    refine y_op (ck_at dt_Re_readNumber 21 rfl) rfl rfl ?_
    refine y_getI (K := 6) (j := 2) (a := 100) (ck_at dt_Re_readNumber 22 rfl) own_Re_readNumber (cf_at 25 rfl) rfl rfl rfl ⟨(SH.o hS ⟨by decide, by decide, by decide⟩), ?_⟩
    refine y_op (ck_at dt_Re_readNumber 23 rfl) rfl (o_const _) ?_
    refine y_op (ck_at dt_Re_readNumber 24 rfl) rfl o_iadd ?_
    refine y_putI (K := 6) (j := 2) (a := 100) (ck_at dt_Re_readNumber 25 rfl) own_Re_readNumber (cf_at 25 rfl) rfl rfl rfl rfl rfl ⟨⟨SH.o hS ⟨by decide, by decide, by decide⟩, by decide⟩, ?_⟩
    have hS3 := SH_u2 (b := 100) (x := 2) (z := (B 100 2) + 1) hS (by decide)
    refine y_op (ck_at dt_Re_readNumber 26 rfl) rfl (o_const _) ?_
    refine y_st1 (ok := q_isI) (n := 4) (L' := [some (.ref 100), some (iv x1), some (iv (B 100 2)), some (iv ((sgC B (B 100 2 + 0)) - 48)), some (iv 0)]) (ck_at dt_Re_readNumber 27 rfl) rfl (fun _ => rfl) (fun _ _ => rfl) rfl nl_Re_readNumber (by decide) rfl rfl ?_
    exact y_wk w ⟨rfl, ⟨rfl, ⟨rfl, ⟨rfl, ⟨rfl, trivial⟩⟩⟩⟩⟩
  · intro q; have w := w.2 q
    obtain ⟨p4, w⟩ := w
    refine y_ldk (ok := q_isA) (n := 0) (ck_at dt_Re_readNumber 8 rfl) rfl rfl (fun _ => rfl) rfl rfl ?_
    refine y_ldk (ok := q_isA) (n := 0) (ck_at dt_Re_readNumber 9 rfl) rfl rfl (fun _ => rfl) rfl rfl ?_
    refine y_getI (K := 6) (j := 2) (a := 100) (ck_at dt_Re_readNumber 10 rfl) own_Re_readNumber (cf_at 25 rfl) rfl rfl rfl ⟨(SH.o hS ⟨by decide, by decide, by decide⟩), ?_⟩
    refine y_virtV (k' := n_Re_breakAt) (n := 0) (as := [iv (B 100 2)]) (r := []) (ck_at dt_Re_readNumber 11 rfl) own_Re_readNumber (cm_at 42 rfl) vk_Re_breakAt rfl nl_Re_breakAt rfl rfl rfl rfl (SH.o hS ⟨by decide, by decide, by decide⟩) (Y_Re_breakAt (by omega) hS p4 ⟨rfl, rfl⟩) ?_
    have hS5 : SH (brC B (B 100 2)) := S_Re_breakAt hS
    refine y_op (ck_at dt_Re_readNumber 12 rfl) rfl (o_const _) ?_
    exact y_retI (ck_at dt_Re_readNumber 13 rfl) rt_Re_readNumber w
/-! PatternTrier$Reader.readMost(I)I -/
def t_Re_readMost : List (Nat × Instr × Nat) := [(0, .iload_n 1, 1), (1, .istore_n 2, 1), (2, .aload_n 0, 1), (3, .iconst 0, 1), (4, .invokevirtual 47, 3), (7, .bipush 44, 2), (9, .if_icmp .ne 33, 3), (12, .aload_n 0, 1), (13, .dup, 1), (14, .getfield 28, 3), (17, .iconst 1, 1), (18, .iadd, 1), (19, .putfield 28, 3), (22, .aload_n 0, 1), (23, .iconst 0, 1), (24, .invokevirtual 47, 3), (27, .bipush 125, 2), (29, .if_icmp .ne 7, 3), (32, .iconst (-1), 1), (33, .goto 8, 3), (36, .aload_n 0, 1), (37, .iload_n 1, 1), (38, .invokevirtual 149, 3), (41, .istore_n 2, 1), (42, .aload_n 0, 1), (43, .iconst 0, 1), (44, .invokevirtual 47, 3), (47, .bipush 125, 2), (49, .if_icmp .eq 11, 3), (52, .aload_n 0, 1), (53, .aload_n 0, 1), (54, .getfield 28, 3), (57, .invokevirtual 50, 3), (60, .aload_n 0, 1), (61, .dup, 1), (62, .getfield 28, 3), (65, .iconst 1, 1), (66, .iadd, 1), (67, .putfield 28, 3), (70, .iload_n 2, 1), (71, .ireturn, 1)]
set_option maxRecDepth 100000 in
theorem dt_Re_readMost : q_ck n_Re_readMost t_Re_readMost = true := by decide +kernel
def c_Re_readMost_60 (h1 : qH) (d : Nat) (x2 : Int) (B : qB) (Q : qO → qB → Prop) : Prop := Q (.inl (some (iv x2))) (u2 B 100 2 ((B 100 2) + 1))
theorem c_Re_readMost_60_ok {h1 : qH} {d : Nat} {x2 : Int} {B : qB} {Q : qO → qB → Prop} (hd : 2 ≤ d) (hS : SH B) (w : c_Re_readMost_60 h1 d x2 B Q) : qY h1 (d + 1) n_Re_readMost 60 [some (.ref 100), none, some (iv x2)] [] B Q := by
  unfold c_Re_readMost_60 at w
  refine y_ldk (ok := q_isA) (n := 0) (ck_at dt_Re_readMost 33 rfl) rfl rfl (fun _ => rfl) rfl rfl ?_
  refine y_op (ck_at dt_Re_readMost 34 rfl) rfl rfl ?_
  refine y_getI (K := 6) (j := 2) (a := 100) (ck_at dt_Re_readMost 35 rfl) own_Re_readMost (cf_at 25 rfl) rfl rfl rfl ⟨(SH.o hS ⟨by decide, by decide, by decide⟩), ?_⟩
  refine y_op (ck_at dt_Re_readMost 36 rfl) rfl (o_const _) ?_
  refine y_op (ck_at dt_Re_readMost 37 rfl) rfl o_iadd ?_
  refine y_putI (K := 6) (j := 2) (a := 100) (ck_at dt_Re_readMost 38 rfl) own_Re_readMost (cf_at 25 rfl) rfl rfl rfl rfl rfl ⟨⟨SH.o hS ⟨by decide, by decide, by decide⟩, by decide⟩, ?_⟩
  have hS1 := SH_u2 (b := 100) (x := 2) (z := (B 100 2) + 1) hS (by decide)
  refine y_ldk (ok := q_isI) (n := 2) (ck_at dt_Re_readMost 39 rfl) rfl rfl (fun _ => rfl) rfl rfl ?_
  exact y_retI (ck_at dt_Re_readMost 40 rfl) rt_Re_readMost w
def c_Re_readMost_42 (h1 : qH) (d : Nat) (x2 : Int) (B : qB) (Q : qO → qB → Prop) : Prop := RI B ∧ R32 (sgC B (B 100 2 + 0)) ∧ (sgC B (B 100 2 + 0) = 125 → c_Re_readMost_60 h1 d x2 B Q) ∧ (¬ sgC B (B 100 2 + 0) = 125 → R32 (B 100 3) ∧ c_Re_readMost_60 h1 d x2 (brC B (B 100 2)) Q)
theorem c_Re_readMost_42_ok {h1 : qH} {d : Nat} {x2 : Int} {B : qB} {Q : qO → qB → Prop} (hd : 2 ≤ d) (hS : SH B) (w : c_Re_readMost_42 h1 d x2 B Q) : qY h1 (d + 1) n_Re_readMost 42 [some (.ref 100), none, some (iv x2)] [] B Q := by
  unfold c_Re_readMost_42 at w
  obtain ⟨p1, p2, w⟩ := w
  refine y_ldk (ok := q_isA) (n := 0) (ck_at dt_Re_readMost 24 rfl) rfl rfl (fun _ => rfl) rfl rfl ?_
  refine y_op (ck_at dt_Re_readMost 25 rfl) rfl (o_const _) ?_
  refine y_virtP (k' := n_Re_see) (n := 2) (as := [iv 0]) (r := []) (ck_at dt_Re_readMost 26 rfl) own_Re_readMost (cm_at 41 rfl) vk_Re_see rfl nl_Re_see rfl rfl rfl rfl (SH.o hS ⟨by decide, by decide, by decide⟩) (Y_Re_see (by omega) hS p1 (by decide) (by decide) ⟨rfl, rfl⟩) ?_
  refine y_op (ck_at dt_Re_readMost 27 rfl) rfl (o_bipush _ (by decide)) ?_
  refine y_icmp (t := 60) (ck_at dt_Re_readMost 28 rfl) rfl p2 ⟨by decide, by decide⟩ ?_ ?_
  · intro q; have w := w.1 q
    exact y_wk (c_Re_readMost_60_ok (by omega) hS w) ⟨rfl, ⟨rfl, trivial⟩⟩
  · intro q; have w := w.2 q
    obtain ⟨p3, w⟩ := w
    refine y_ldk (ok := q_isA) (n := 0) (ck_at dt_Re_readMost 29 rfl) rfl rfl (fun _ => rfl) rfl rfl ?_
    refine y_ldk (ok := q_isA) (n := 0) (ck_at dt_Re_readMost 30 rfl) rfl rfl (fun _ => rfl) rfl rfl ?_
    refine y_getI (K := 6) (j := 2) (a := 100) (ck_at dt_Re_readMost 31 rfl) own_Re_readMost (cf_at 25 rfl) rfl rfl rfl ⟨(SH.o hS ⟨by decide, by decide, by decide⟩), ?_⟩
    refine y_virtV (k' := n_Re_breakAt) (n := 0) (as := [iv (B 100 2)]) (r := []) (ck_at dt_Re_readMost 32 rfl) own_Re_readMost (cm_at 42 rfl) vk_Re_breakAt rfl nl_Re_breakAt rfl rfl rfl rfl (SH.o hS ⟨by decide, by decide, by decide⟩) (Y_Re_breakAt (by omega) hS p3 ⟨rfl, rfl⟩) ?_
    have hS4 : SH (brC B (B 100 2)) := S_Re_breakAt hS
    exact y_wk (c_Re_readMost_60_ok (by omega) hS4 w) ⟨rfl, ⟨rfl, trivial⟩⟩
def c_Re_readMost_41 (h1 : qH) (d : Nat) (s0 : Int) (B : qB) (Q : qO → qB → Prop) : Prop := c_Re_readMost_42 h1 d s0 B Q
theorem c_Re_readMost_41_ok {h1 : qH} {d : Nat} {s0 : Int} {B : qB} {Q : qO → qB → Prop} (hd : 2 ≤ d) (hS : SH B) (w : c_Re_readMost_41 h1 d s0 B Q) : qY h1 (d + 1) n_Re_readMost 41 [some (.ref 100), none, none] [iv s0] B Q := by
  unfold c_Re_readMost_41 at w
  refine y_st1 (ok := q_isI) (n := 2) (L' := [some (.ref 100), none, some (iv s0)]) (ck_at dt_Re_readMost 23 rfl) rfl (fun _ => rfl) (fun _ _ => rfl) rfl nl_Re_readMost (by decide) trivial rfl ?_
  exact y_wk (c_Re_readMost_42_ok (by omega) hS w) ⟨rfl, ⟨rfl, trivial⟩⟩
def c_Re_readMost_0 (h1 : qH) (d : Nat) (x1 : Int) (B : qB) (Q : qO → qB → Prop) : Prop := RI B ∧ R32 (sgC B (B 100 2 + 0)) ∧ (¬ sgC B (B 100 2 + 0) = 44 → c_Re_readMost_42 h1 d x1 B Q) ∧ (sgC B (B 100 2 + 0) = 44 → RI (u2 B 100 2 ((B 100 2) + 1)) ∧ R32 (sgC (u2 B 100 2 ((B 100 2) + 1)) ((u2 B 100 2 ((B 100 2) + 1)) 100 2 + 0)) ∧ (¬ sgC (u2 B 100 2 ((B 100 2) + 1)) ((u2 B 100 2 ((B 100 2) + 1)) 100 2 + 0) = 125 → qY h1 d n_Re_readNumber 0 [some (.ref 100), some (iv x1), none, none, none] [] (u2 B 100 2 ((B 100 2) + 1)) (fun o B' => ∃ v : Int, o = .inl (some (iv v)) ∧ SH B' ∧ c_Re_readMost_41 h1 d v B' Q)) ∧ (sgC (u2 B 100 2 ((B 100 2) + 1)) ((u2 B 100 2 ((B 100 2) + 1)) 100 2 + 0) = 125 → c_Re_readMost_41 h1 d (-1) (u2 B 100 2 ((B 100 2) + 1)) Q))
theorem c_Re_readMost_0_ok {h1 : qH} {d : Nat} {x1 : Int} {B : qB} {Q : qO → qB → Prop} (hd : 2 ≤ d) (hS : SH B) (w : c_Re_readMost_0 h1 d x1 B Q) : qY h1 (d + 1) n_Re_readMost 0 [some (.ref 100), some (iv x1), none] [] B Q := by
  unfold c_Re_readMost_0 at w
  obtain ⟨p1, p2, w⟩ := w
  refine y_ldk (ok := q_isI) (n := 1) (ck_at dt_Re_readMost 0 rfl) rfl rfl (fun _ => rfl) rfl rfl ?_
  refine y_st1 (ok := q_isI) (n := 2) (L' := [some (.ref 100), some (iv x1), some (iv x1)]) (ck_at dt_Re_readMost 1 rfl) rfl (fun _ => rfl) (fun _ _ => rfl) rfl nl_Re_readMost (by decide) rfl rfl ?_
  refine y_ldk (ok := q_isA) (n := 0) (ck_at dt_Re_readMost 2 rfl) rfl rfl (fun _ => rfl) rfl rfl ?_
  refine y_op (ck_at dt_Re_readMost 3 rfl) rfl (o_const _) ?_
  refine y_virtP (k' := n_Re_see) (n := 2) (as := [iv 0]) (r := []) (ck_at dt_Re_readMost 4 rfl) own_Re_readMost (cm_at 41 rfl) vk_Re_see rfl nl_Re_see rfl rfl rfl rfl (SH.o hS ⟨by decide, by decide, by decide⟩) (Y_Re_see (by omega) hS p1 (by decide) (by decide) ⟨rfl, rfl⟩) ?_
  refine y_op (ck_at dt_Re_readMost 5 rfl) rfl (o_bipush _ (by decide)) ?_
  refine y_icmp (t := 42) (ck_at dt_Re_readMost 6 rfl) rfl p2 ⟨by decide, by decide⟩ ?_ ?_
  · intro q; have w := w.1 q
    exact y_wk (c_Re_readMost_42_ok (by omega) hS w) ⟨rfl, ⟨rfl, trivial⟩⟩
  · intro q; have w := w.2 q
    obtain ⟨p4, p5, w⟩ := w
    refine y_ldk (ok := q_isA) (n := 0) (ck_at dt_Re_readMost 7 rfl) rfl rfl (fun _ => rfl) rfl rfl ?_
    refine y_op (ck_at dt_Re_readMost 8 rfl) rfl rfl ?_
    refine y_getI (K := 6) (j := 2) (a := 100) (ck_at dt_Re_readMost 9 rfl) own_Re_readMost (cf_at 25 rfl) rfl rfl rfl ⟨(SH.o hS ⟨by decide, by decide, by decide⟩), ?_⟩
    refine y_op (ck_at dt_Re_readMost 10 rfl) rfl (o_const _) ?_
    refine y_op (ck_at dt_Re_readMost 11 rfl) rfl o_iadd ?_
    refine y_putI (K := 6) (j := 2) (a := 100) (ck_at dt_Re_readMost 12 rfl) own_Re_readMost (cf_at 25 rfl) rfl rfl rfl rfl rfl ⟨⟨SH.o hS ⟨by decide, by decide, by decide⟩, by decide⟩, ?_⟩
    have hS3 := SH_u2 (b := 100) (x := 2) (z := (B 100 2) + 1) hS (by decide)
    refine y_ldk (ok := q_isA) (n := 0) (ck_at dt_Re_readMost 13 rfl) rfl rfl (fun _ => rfl) rfl rfl ?_
    refine y_op (ck_at dt_Re_readMost 14 rfl) rfl (o_const _) ?_
    refine y_virtP (k' := n_Re_see) (n := 2) (as := [iv 0]) (r := []) (ck_at dt_Re_readMost 15 rfl) own_Re_readMost (cm_at 41 rfl) vk_Re_see rfl nl_Re_see rfl rfl rfl rfl (SH.o hS3 ⟨by decide, by decide, by decide⟩) (Y_Re_see (by omega) hS3 p4 (by decide) (by decide) ⟨rfl, rfl⟩) ?_
    refine y_op (ck_at dt_Re_readMost 16 rfl) rfl (o_bipush _ (by decide)) ?_
    refine y_icmp (t := 36) (ck_at dt_Re_readMost 17 rfl) rfl p5 ⟨by decide, by decide⟩ ?_ ?_
    · intro q; have w := w.1 q
      refine y_ldk (ok := q_isA) (n := 0) (ck_at dt_Re_readMost 20 rfl) rfl rfl (fun _ => rfl) rfl rfl ?_
      refine y_ldk (ok := q_isI) (n := 1) (ck_at dt_Re_readMost 21 rfl) rfl rfl (fun _ => rfl) rfl rfl ?_
      refine y_virt (k' := n_Re_readNumber) (n := 3) (as := [iv x1]) (r := []) (ck_at dt_Re_readMost 22 rfl) own_Re_readMost (cm_at 71 rfl) vk_Re_readNumber rfl nl_Re_readNumber rfl rfl rfl rfl ⟨(SH.o hS3 ⟨by decide, by decide, by decide⟩), ?_⟩
      exact w.mono (Nat.le_refl _) (fun o B' ⟨v, ho, hS', w⟩ => Or.inl ⟨some (iv v), ho, y_wk (c_Re_readMost_41_ok (by omega) hS' w) ⟨rfl, trivial⟩⟩)
    · intro q; have w := w.2 q
      refine y_op (ck_at dt_Re_readMost 18 rfl) rfl (o_const _) ?_
      refine y_goto (t := 41) (ck_at dt_Re_readMost 19 rfl) rfl ?_
      exact y_wk (c_Re_readMost_41_ok (by omega) hS3 w) ⟨rfl, trivial⟩
/-! PatternTrier$Reader.readRounds(IZ)I -/
def t_Re_readRounds : List (Nat × Instr × Nat) := [(0, .aload_n 0, 1), (1, .iconst 0, 1), (2, .invokevirtual 47, 3), (5, .istore_n 3, 1), (6, .aload_n 0, 1), (7, .dup, 1), (8, .getfield 28, 3), (11, .iconst 1, 1), (12, .iadd, 1), (13, .putfield 28, 3), (16, .iload_n 3, 1), (17, .bipush 43, 2), (19, .if_icmp .ne 7, 3), (22, .iconst 1, 1), (23, .goto 4, 3), (26, .iconst 0, 1), (27, .istore 4, 2), (29, .iload_n 3, 1), (30, .bipush 63, 2), (32, .if_icmp .ne 7, 3), (35, .iconst 1, 1), (36, .goto 4, 3), (39, .iconst (-1), 1), (40, .istore 5, 2), (42, .iload_n 3, 1), (43, .bipush 123, 2), (45, .if_icmp .ne 18, 3), (48, .aload_n 0, 1), (49, .iconst 0, 1), (50, .invokevirtual 149, 3), (53, .istore 4, 2), (55, .aload_n 0, 1), (56, .iload 4, 2), (58, .invokevirtual 152, 3), (61, .istore 5, 2), (63, .aload_n 0, 1), (64, .invokevirtual 68, 3), (67, .ifCond .eq 5, 3), (70, .iload_n 1, 1), (71, .ireturn, 1), (72, .iconst 0, 1), (73, .istore 6, 2), (75, .aload_n 0, 1), (76, .iconst 0, 1), (77, .invokevirtual 47, 3), (80, .bipush 63, 2), (82, .if_icmp .ne 19, 3), (85, .iconst 1, 1), (86, .istore 6, 2), (88, .aload_n 0, 1), (89, .dup, 1), (90, .getfield 28, 3), (93, .iconst 1, 1), (94, .iadd, 1), (95, .putfield 28, 3), (98, .goto 48, 3), (101, .aload_n 0, 1), (102, .iconst 0, 1), (103, .invokevirtual 47, 3), (106, .bipush 43, 2), (108, .if_icmp .ne 38, 3), (111, .iconst 2, 1), (112, .istore 6, 2), (114, .aload_n 0, 1), (115, .dup, 1), (116, .getfield 37, 3), (119, .iconst 1, 1), (120, .iadd, 1), (121, .putfield 37, 3), (124, .iload_n 2, 1), (125, .ifCond .eq 11, 3), (128, .aload_n 0, 1), (129, .aload_n 0, 1), (130, .getfield 28, 3), (133, .invokevirtual 50, 3), (136, .aload_n 0, 1), (137, .dup, 1), (138, .getfield 28, 3), (141, .iconst 1, 1), (142, .iadd, 1), (143, .putfield 28, 3), (146, .aload_n 0, 1), (147, .getfield 9, 3), (150, .iload_n 1, 1), (151, .iload 4, 2), (153, .iload 5, 2), (155, .iload 6, 2), (157, .invokevirtual 155, 3), (160, .ireturn, 1)]
set_option maxRecDepth 100000 in
theorem dt_Re_readRounds : q_ck n_Re_readRounds t_Re_readRounds = true := by decide +kernel
def c_Re_readRounds_146 (h1 : qH) (d : Nat) (x1 : Int) (x4 : Int) (x5 : Int) (x6 : Int) (B : qB) (Q : qO → qB → Prop) : Prop := arO B x1 x4 x5 x6 ∧ Q (.inl (some (iv (adV B)))) (arC B x1 x4 x5 x6)
theorem c_Re_readRounds_146_ok {h1 : qH} {d : Nat} {x1 : Int} {x4 : Int} {x5 : Int} {x6 : Int} {B : qB} {Q : qO → qB → Prop} (hd : 3 ≤ d) (hS : SH B) (w : c_Re_readRounds_146 h1 d x1 x4 x5 x6 B Q) : qY h1 (d + 1) n_Re_readRounds 146 [some (.ref 100), some (iv x1), none, none, some (iv x4), some (iv x5), some (iv x6)] [] B Q := by
  unfold c_Re_readRounds_146 at w
  obtain ⟨p1, w⟩ := w
  refine y_ldk (ok := q_isA) (n := 0) (ck_at dt_Re_readRounds 81 rfl) rfl rfl (fun _ => rfl) rfl rfl ?_
  refine y_getF (r := 90) (K := 6) (j := 0) (a := 100) (ck_at dt_Re_readRounds 82 rfl) own_Re_readRounds (cf_at 22 rfl) rfl rfl ⟨(SH.o hS ⟨by decide, by decide, by decide⟩), ?_⟩
  refine y_ldk (ok := q_isI) (n := 1) (ck_at dt_Re_readRounds 83 rfl) rfl rfl (fun _ => rfl) rfl rfl ?_
  refine y_ldk (ok := q_isI) (n := 4) (ck_at dt_Re_readRounds 84 rfl) rfl rfl (fun _ => rfl) rfl rfl ?_
  refine y_ldk (ok := q_isI) (n := 5) (ck_at dt_Re_readRounds 85 rfl) rfl rfl (fun _ => rfl) rfl rfl ?_
  refine y_ldk (ok := q_isI) (n := 6) (ck_at dt_Re_readRounds 86 rfl) rfl rfl (fun _ => rfl) rfl rfl ?_
  refine y_virtP (k' := n_Tr_addRounds) (n := 3) (as := [iv x1, iv x4, iv x5, iv x6]) (r := []) (ck_at dt_Re_readRounds 87 rfl) own_Re_readRounds (cm_at 73 rfl) vk_Tr_addRounds rfl nl_Tr_addRounds rfl rfl rfl rfl (SH.o hS ⟨by decide, by decide, by decide⟩) (Y_Tr_addRounds (by omega) hS p1 ⟨rfl, rfl⟩) ?_
  have hS2 : SH (arC B x1 x4 x5 x6) := S_Tr_addRounds hS p1
  exact y_retI (ck_at dt_Re_readRounds 88 rfl) rt_Re_readRounds w
def c_Re_readRounds_136 (h1 : qH) (d : Nat) (x1 : Int) (x4 : Int) (x5 : Int) (x6 : Int) (B : qB) (Q : qO → qB → Prop) : Prop := c_Re_readRounds_146 h1 d x1 x4 x5 x6 (u2 B 100 2 ((B 100 2) + 1)) Q
theorem c_Re_readRounds_136_ok {h1 : qH} {d : Nat} {x1 : Int} {x4 : Int} {x5 : Int} {x6 : Int} {B : qB} {Q : qO → qB → Prop} (hd : 3 ≤ d) (hS : SH B) (w : c_Re_readRounds_136 h1 d x1 x4 x5 x6 B Q) : qY h1 (d + 1) n_Re_readRounds 136 [some (.ref 100), some (iv x1), none, none, some (iv x4), some (iv x5), some (iv x6)] [] B Q := by
  unfold c_Re_readRounds_136 at w
  refine y_ldk (ok := q_isA) (n := 0) (ck_at dt_Re_readRounds 75 rfl) rfl rfl (fun _ => rfl) rfl rfl ?_
  refine y_op (ck_at dt_Re_readRounds 76 rfl) rfl rfl ?_
  refine y_getI (K := 6) (j := 2) (a := 100) (ck_at dt_Re_readRounds 77 rfl) own_Re_readRounds (cf_at 25 rfl) rfl rfl rfl ⟨(SH.o hS ⟨by decide, by decide, by decide⟩), ?_⟩
  refine y_op (ck_at dt_Re_readRounds 78 rfl) rfl (o_const _) ?_
  refine y_op (ck_at dt_Re_readRounds 79 rfl) rfl o_iadd ?_
  refine y_putI (K := 6) (j := 2) (a := 100) (ck_at dt_Re_readRounds 80 rfl) own_Re_readRounds (cf_at 25 rfl) rfl rfl rfl rfl rfl ⟨⟨SH.o hS ⟨by decide, by decide, by decide⟩, by decide⟩, ?_⟩
  have hS1 := SH_u2 (b := 100) (x := 2) (z := (B 100 2) + 1) hS (by decide)
  exact y_wk (c_Re_readRounds_146_ok (by omega) hS1 w) ⟨rfl, ⟨rfl, ⟨rfl, ⟨rfl, ⟨rfl, trivial⟩⟩⟩⟩⟩
def c_Re_readRounds_63 (h1 : qH) (d : Nat) (x1 : Int) (x2 : Int) (x4 : Int) (x5 : Int) (B : qB) (Q : qO → qB → Prop) : Prop := R32 (B 100 3) ∧ (bi (decide (¬ B 100 3 = (-1))) = 0 → RI B ∧ R32 (sgC B (B 100 2 + 0)) ∧ (¬ sgC B (B 100 2 + 0) = 63 → (¬ sgC B (B 100 2 + 0) = 43 → c_Re_readRounds_146 h1 d x1 x4 x5 0 B Q) ∧ (sgC B (B 100 2 + 0) = 43 → R32 x2 ∧ (x2 = 0 → c_Re_readRounds_136 h1 d x1 x4 x5 2 (u2 B 100 7 ((B 100 7) + 1)) Q) ∧ (¬ x2 = 0 → R32 ((u2 B 100 7 ((B 100 7) + 1)) 100 3) ∧ c_Re_readRounds_136 h1 d x1 x4 x5 2 (brC (u2 B 100 7 ((B 100 7) + 1)) (B 100 2)) Q))) ∧ (sgC B (B 100 2 + 0) = 63 → c_Re_readRounds_146 h1 d x1 x4 x5 1 (u2 B 100 2 ((B 100 2) + 1)) Q)) ∧ (¬ bi (decide (¬ B 100 3 = (-1))) = 0 → Q (.inl (some (iv x1))) B)
theorem c_Re_readRounds_63_ok {h1 : qH} {d : Nat} {x1 : Int} {x2 : Int} {x4 : Int} {x5 : Int} {B : qB} {Q : qO → qB → Prop} (hd : 3 ≤ d) (hS : SH B) (w : c_Re_readRounds_63 h1 d x1 x2 x4 x5 B Q) : qY h1 (d + 1) n_Re_readRounds 63 [some (.ref 100), some (iv x1), some (iv x2), none, some (iv x4), some (iv x5), none] [] B Q := by
  unfold c_Re_readRounds_63 at w
  obtain ⟨p1, w⟩ := w
  refine y_ldk (ok := q_isA) (n := 0) (ck_at dt_Re_readRounds 35 rfl) rfl rfl (fun _ => rfl) rfl rfl ?_
  refine y_virtP (k' := n_Re_isBroken) (n := 0) (as := []) (r := []) (ck_at dt_Re_readRounds 36 rfl) own_Re_readRounds (cm_at 47 rfl) vk_Re_isBroken rfl nl_Re_isBroken rfl rfl rfl rfl (SH.o hS ⟨by decide, by decide, by decide⟩) (Y_Re_isBroken (by omega) hS p1 ⟨rfl, rfl⟩) ?_
  refine y_ifz (t := 72) (ck_at dt_Re_readRounds 37 rfl) rfl (R32_bi _) ?_ ?_
  · intro q; have w := w.1 q
    obtain ⟨p2, p3, w⟩ := w
    refine y_op (ck_at dt_Re_readRounds 40 rfl) rfl (o_const _) ?_
    refine y_st1 (ok := q_isI) (n := 6) (L' := [some (.ref 100), some (iv x1), some (iv x2), none, some (iv x4), some (iv x5), some (iv 0)]) (ck_at dt_Re_readRounds 41 rfl) rfl (fun _ => rfl) (fun _ _ => rfl) rfl nl_Re_readRounds (by decide) rfl rfl ?_
    refine y_ldk (ok := q_isA) (n := 0) (ck_at dt_Re_readRounds 42 rfl) rfl rfl (fun _ => rfl) rfl rfl ?_
    refine y_op (ck_at dt_Re_readRounds 43 rfl) rfl (o_const _) ?_
    refine y_virtP (k' := n_Re_see) (n := 2) (as := [iv 0]) (r := []) (ck_at dt_Re_readRounds 44 rfl) own_Re_readRounds (cm_at 41 rfl) vk_Re_see rfl nl_Re_see rfl rfl rfl rfl (SH.o hS ⟨by decide, by decide, by decide⟩) (Y_Re_see (by omega) hS p2 (by decide) (by decide) ⟨rfl, rfl⟩) ?_
    refine y_op (ck_at dt_Re_readRounds 45 rfl) rfl (o_bipush _ (by decide)) ?_
    refine y_icmp (t := 101) (ck_at dt_Re_readRounds 46 rfl) rfl p3 ⟨by decide, by decide⟩ ?_ ?_
    · intro q; have w := w.1 q
      refine y_ldk (ok := q_isA) (n := 0) (ck_at dt_Re_readRounds 56 rfl) rfl rfl (fun _ => rfl) rfl rfl ?_
      refine y_op (ck_at dt_Re_readRounds 57 rfl) rfl (o_const _) ?_
      refine y_virtP (k' := n_Re_see) (n := 2) (as := [iv 0]) (r := []) (ck_at dt_Re_readRounds 58 rfl) own_Re_readRounds (cm_at 41 rfl) vk_Re_see rfl nl_Re_see rfl rfl rfl rfl (SH.o hS ⟨by decide, by decide, by decide⟩) (Y_Re_see (by omega) hS p2 (by decide) (by decide) ⟨rfl, rfl⟩) ?_
      refine y_op (ck_at dt_Re_readRounds 59 rfl) rfl (o_bipush _ (by decide)) ?_
      refine y_icmp (t := 146) (ck_at dt_Re_readRounds 60 rfl) rfl p3 ⟨by decide, by decide⟩ ?_ ?_
      · intro q; have w := w.1 q
        exact y_wk (c_Re_readRounds_146_ok (by omega) hS w) ⟨rfl, ⟨rfl, ⟨rfl, ⟨rfl, ⟨rfl, trivial⟩⟩⟩⟩⟩
      · intro q; have w := w.2 q
        obtain ⟨p5, w⟩ := w
        refine y_op (ck_at dt_Re_readRounds 61 rfl) rfl (o_const _) ?_
        refine y_st1 (ok := q_isI) (n := 6) (L' := [some (.ref 100), some (iv x1), some (iv x2), none, some (iv x4), some (iv x5), some (iv 2)]) (ck_at dt_Re_readRounds 62 rfl) rfl (fun _ => rfl) (fun _ _ => rfl) rfl nl_Re_readRounds (by decide) rfl rfl ?_
        refine y_ldk (ok := q_isA) (n := 0) (ck_at dt_Re_readRounds 63 rfl) rfl rfl (fun _ => rfl) rfl rfl ?_
        refine y_op (ck_at dt_Re_readRounds 64 rfl) rfl rfl ?_
        refine y_getI (K := 6) (j := 7) (a := 100) (ck_at dt_Re_readRounds 65 rfl) own_Re_readRounds (cf_at 28 rfl) rfl rfl rfl ⟨(SH.o hS ⟨by decide, by decide, by decide⟩), ?_⟩
        refine y_op (ck_at dt_Re_readRounds 66 rfl) rfl (o_const _) ?_
        refine y_op (ck_at dt_Re_readRounds 67 rfl) rfl o_iadd ?_
        refine y_putI (K := 6) (j := 7) (a := 100) (ck_at dt_Re_readRounds 68 rfl) own_Re_readRounds (cf_at 28 rfl) rfl rfl rfl rfl rfl ⟨⟨SH.o hS ⟨by decide, by decide, by decide⟩, by decide⟩, ?_⟩
        have hS4 := SH_u2 (b := 100) (x := 7) (z := (B 100 7) + 1) hS (by decide)
        refine y_ldk (ok := q_isI) (n := 2) (ck_at dt_Re_readRounds 69 rfl) rfl rfl (fun _ => rfl) rfl rfl ?_
        refine y_ifz (t := 136) (ck_at dt_Re_readRounds 70 rfl) rfl p5 ?_ ?_
        · intro q; have w := w.1 q
          exact y_wk (c_Re_readRounds_136_ok (by omega) hS4 w) ⟨rfl, ⟨rfl, ⟨rfl, ⟨rfl, ⟨rfl, trivial⟩⟩⟩⟩⟩
        · intro q; have w := w.2 q
          obtain ⟨p6, w⟩ := w
          refine y_ldk (ok := q_isA) (n := 0) (ck_at dt_Re_readRounds 71 rfl) rfl rfl (fun _ => rfl) rfl rfl ?_
          refine y_ldk (ok := q_isA) (n := 0) (ck_at dt_Re_readRounds 72 rfl) rfl rfl (fun _ => rfl) rfl rfl ?_
          refine y_getI (K := 6) (j := 2) (a := 100) (ck_at dt_Re_readRounds 73 rfl) own_Re_readRounds (cf_at 25 rfl) rfl rfl rfl ⟨(SH.o hS4 ⟨by decide, by decide, by decide⟩), ?_⟩
          refine y_virtV (k' := n_Re_breakAt) (n := 0) (as := [iv (B 100 2)]) (r := []) (ck_at dt_Re_readRounds 74 rfl) own_Re_readRounds (cm_at 42 rfl) vk_Re_breakAt rfl nl_Re_breakAt rfl rfl rfl rfl (SH.o hS4 ⟨by decide, by decide, by decide⟩) (Y_Re_breakAt (by omega) hS4 p6 ⟨rfl, rfl⟩) ?_
          have hS7 : SH (brC (u2 B 100 7 ((B 100 7) + 1)) (B 100 2)) := S_Re_breakAt hS4
          exact y_wk (c_Re_readRounds_136_ok (by omega) hS7 w) ⟨rfl, ⟨rfl, ⟨rfl, ⟨rfl, ⟨rfl, trivial⟩⟩⟩⟩⟩
    · intro q; have w := w.2 q
      refine y_op (ck_at dt_Re_readRounds 47 rfl) rfl (o_const _) ?_
      refine y_st1 (ok := q_isI) (n := 6) (L' := [some (.ref 100), some (iv x1), some (iv x2), none, some (iv x4), some (iv x5), some (iv 1)]) (ck_at dt_Re_readRounds 48 rfl) rfl (fun _ => rfl) (fun _ _ => rfl) rfl nl_Re_readRounds (by decide) rfl rfl ?_
      refine y_ldk (ok := q_isA) (n := 0) (ck_at dt_Re_readRounds 49 rfl) rfl rfl (fun _ => rfl) rfl rfl ?_
      refine y_op (ck_at dt_Re_readRounds 50 rfl) rfl rfl ?_
      refine y_getI (K := 6) (j := 2) (a := 100) (ck_at dt_Re_readRounds 51 rfl) own_Re_readRounds (cf_at 25 rfl) rfl rfl rfl ⟨(SH.o hS ⟨by decide, by decide, by decide⟩), ?_⟩
      refine y_op (ck_at dt_Re_readRounds 52 rfl) rfl (o_const _) ?_
      refine y_op (ck_at dt_Re_readRounds 53 rfl) rfl o_iadd ?_
      refine y_putI (K := 6) (j := 2) (a := 100) (ck_at dt_Re_readRounds 54 rfl) own_Re_readRounds (cf_at 25 rfl) rfl rfl rfl rfl rfl ⟨⟨SH.o hS ⟨by decide, by decide, by decide⟩, by decide⟩, ?_⟩
      have hS8 := SH_u2 (b := 100) (x := 2) (z := (B 100 2) + 1) hS (by decide)
      refine y_goto (t := 146) (ck_at dt_Re_readRounds 55 rfl) rfl ?_
      exact y_wk (c_Re_readRounds_146_ok (by omega) hS8 w) ⟨rfl, ⟨rfl, ⟨rfl, ⟨rfl, ⟨rfl, trivial⟩⟩⟩⟩⟩
  · intro q; have w := w.2 q
    refine y_ldk (ok := q_isI) (n := 1) (ck_at dt_Re_readRounds 38 rfl) rfl rfl (fun _ => rfl) rfl rfl ?_
    exact y_retI (ck_at dt_Re_readRounds 39 rfl) rt_Re_readRounds w
def c_Re_readRounds_61 (h1 : qH) (d : Nat) (x1 : Int) (x2 : Int) (x4 : Int) (s0 : Int) (B : qB) (Q : qO → qB → Prop) : Prop := c_Re_readRounds_63 h1 d x1 x2 x4 s0 B Q
theorem c_Re_readRounds_61_ok {h1 : qH} {d : Nat} {x1 : Int} {x2 : Int} {x4 : Int} {s0 : Int} {B : qB} {Q : qO → qB → Prop} (hd : 3 ≤ d) (hS : SH B) (w : c_Re_readRounds_61 h1 d x1 x2 x4 s0 B Q) : qY h1 (d + 1) n_Re_readRounds 61 [some (.ref 100), some (iv x1), some (iv x2), none, some (iv x4), none, none] [iv s0] B Q := by
  unfold c_Re_readRounds_61 at w
  refine y_st1 (ok := q_isI) (n := 5) (L' := [some (.ref 100), some (iv x1), some (iv x2), none, some (iv x4), some (iv s0), none]) (ck_at dt_Re_readRounds 34 rfl) rfl (fun _ => rfl) (fun _ _ => rfl) rfl nl_Re_readRounds (by decide) rfl rfl ?_
  exact y_wk (c_Re_readRounds_63_ok (by omega) hS w) ⟨rfl, ⟨rfl, ⟨rfl, ⟨rfl, ⟨rfl, trivial⟩⟩⟩⟩⟩
def c_Re_readRounds_53 (h1 : qH) (d : Nat) (x1 : Int) (x2 : Int) (s0 : Int) (B : qB) (Q : qO → qB → Prop) : Prop := qY h1 d n_Re_readMost 0 [some (.ref 100), some (iv s0), none] [] B (fun o B' => ∃ v : Int, o = .inl (some (iv v)) ∧ SH B' ∧ c_Re_readRounds_61 h1 d x1 x2 s0 v B' Q)
theorem c_Re_readRounds_53_ok {h1 : qH} {d : Nat} {x1 : Int} {x2 : Int} {s0 : Int} {B : qB} {Q : qO → qB → Prop} (hd : 3 ≤ d) (hS : SH B) (w : c_Re_readRounds_53 h1 d x1 x2 s0 B Q) : qY h1 (d + 1) n_Re_readRounds 53 [some (.ref 100), some (iv x1), some (iv x2), none, none, none, none] [iv s0] B Q := by
  unfold c_Re_readRounds_53 at w
  refine y_st1 (ok := q_isI) (n := 4) (L' := [some (.ref 100), some (iv x1), some (iv x2), none, some (iv s0), none, none]) (ck_at dt_Re_readRounds 30 rfl) rfl (fun _ => rfl) (fun _ _ => rfl) rfl nl_Re_readRounds (by decide) trivial rfl ?_
  refine y_ldk (ok := q_isA) (n := 0) (ck_at dt_Re_readRounds 31 rfl) rfl rfl (fun _ => rfl) rfl rfl ?_
  refine y_ldk (ok := q_isI) (n := 4) (ck_at dt_Re_readRounds 32 rfl) rfl rfl (fun _ => rfl) rfl rfl ?_
  refine y_virt (k' := n_Re_readMost) (n := 1) (as := [iv s0]) (r := []) (ck_at dt_Re_readRounds 33 rfl) own_Re_readRounds (cm_at 72 rfl) vk_Re_readMost rfl nl_Re_readMost rfl rfl rfl rfl ⟨(SH.o hS ⟨by decide, by decide, by decide⟩), ?_⟩
  exact w.mono (Nat.le_refl _) (fun o B' ⟨v, ho, hS', w⟩ => Or.inl ⟨some (iv v), ho, y_wk (c_Re_readRounds_61_ok (by omega) hS' w) ⟨rfl, ⟨rfl, ⟨rfl, ⟨rfl, trivial⟩⟩⟩⟩⟩)
def c_Re_readRounds_40 (h1 : qH) (d : Nat) (x1 : Int) (x2 : Int) (x3 : Int) (x4 : Int) (s0 : Int) (B : qB) (Q : qO → qB → Prop) : Prop := R32 x3 ∧ (¬ x3 = 123 → c_Re_readRounds_63 h1 d x1 x2 x4 s0 B Q) ∧ (x3 = 123 → qY h1 d n_Re_readNumber 0 [some (.ref 100), some (iv 0), none, none, none] [] B (fun o B' => ∃ v : Int, o = .inl (some (iv v)) ∧ SH B' ∧ c_Re_readRounds_53 h1 d x1 x2 v B' Q))
theorem c_Re_readRounds_40_ok {h1 : qH} {d : Nat} {x1 : Int} {x2 : Int} {x3 : Int} {x4 : Int} {s0 : Int} {B : qB} {Q : qO → qB → Prop} (hd : 3 ≤ d) (hS : SH B) (w : c_Re_readRounds_40 h1 d x1 x2 x3 x4 s0 B Q) : qY h1 (d + 1) n_Re_readRounds 40 [some (.ref 100), some (iv x1), some (iv x2), some (iv x3), some (iv x4), none, none] [iv s0] B Q := by
  unfold c_Re_readRounds_40 at w
  obtain ⟨p1, w⟩ := w
  refine y_st1 (ok := q_isI) (n := 5) (L' := [some (.ref 100), some (iv x1), some (iv x2), some (iv x3), some (iv x4), some (iv s0), none]) (ck_at dt_Re_readRounds 23 rfl) rfl (fun _ => rfl) (fun _ _ => rfl) rfl nl_Re_readRounds (by decide) rfl rfl ?_
  refine y_ldk (ok := q_isI) (n := 3) (ck_at dt_Re_readRounds 24 rfl) rfl rfl (fun _ => rfl) rfl rfl ?_
  refine y_op (ck_at dt_Re_readRounds 25 rfl) rfl (o_bipush _ (by decide)) ?_
  refine y_icmp (t := 63) (ck_at dt_Re_readRounds 26 rfl) rfl p1 ⟨by decide, by decide⟩ ?_ ?_
  · intro q; have w := w.1 q
    exact y_wk (c_Re_readRounds_63_ok (by omega) hS w) ⟨rfl, ⟨rfl, ⟨rfl, ⟨rfl, ⟨rfl, trivial⟩⟩⟩⟩⟩
  · intro q; have w := w.2 q
    refine y_ldk (ok := q_isA) (n := 0) (ck_at dt_Re_readRounds 27 rfl) rfl rfl (fun _ => rfl) rfl rfl ?_
    refine y_op (ck_at dt_Re_readRounds 28 rfl) rfl (o_const _) ?_
    refine y_virt (k' := n_Re_readNumber) (n := 3) (as := [iv 0]) (r := []) (ck_at dt_Re_readRounds 29 rfl) own_Re_readRounds (cm_at 71 rfl) vk_Re_readNumber rfl nl_Re_readNumber rfl rfl rfl rfl ⟨(SH.o hS ⟨by decide, by decide, by decide⟩), ?_⟩
    exact w.mono (Nat.le_refl _) (fun o B' ⟨v, ho, hS', w⟩ => Or.inl ⟨some (iv v), ho, y_wk (c_Re_readRounds_53_ok (by omega) hS' w) ⟨rfl, ⟨rfl, ⟨rfl, trivial⟩⟩⟩⟩)
def c_Re_readRounds_27 (h1 : qH) (d : Nat) (x1 : Int) (x2 : Int) (x3 : Int) (s0 : Int) (B : qB) (Q : qO → qB → Prop) : Prop := R32 x3 ∧ (¬ x3 = 63 → c_Re_readRounds_40 h1 d x1 x2 x3 s0 (-1) B Q) ∧ (x3 = 63 → c_Re_readRounds_40 h1 d x1 x2 x3 s0 1 B Q)
theorem c_Re_readRounds_27_ok {h1 : qH} {d : Nat} {x1 : Int} {x2 : Int} {x3 : Int} {s0 : Int} {B : qB} {Q : qO → qB → Prop} (hd : 3 ≤ d) (hS : SH B) (w : c_Re_readRounds_27 h1 d x1 x2 x3 s0 B Q) : qY h1 (d + 1) n_Re_readRounds 27 [some (.ref 100), some (iv x1), some (iv x2), some (iv x3), none, none, none] [iv s0] B Q := by
  unfold c_Re_readRounds_27 at w
  obtain ⟨p1, w⟩ := w
  refine y_st1 (ok := q_isI) (n := 4) (L' := [some (.ref 100), some (iv x1), some (iv x2), some (iv x3), some (iv s0), none, none]) (ck_at dt_Re_readRounds 16 rfl) rfl (fun _ => rfl) (fun _ _ => rfl) rfl nl_Re_readRounds (by decide) rfl rfl ?_
  refine y_ldk (ok := q_isI) (n := 3) (ck_at dt_Re_readRounds 17 rfl) rfl rfl (fun _ => rfl) rfl rfl ?_
  refine y_op (ck_at dt_Re_readRounds 18 rfl) rfl (o_bipush _ (by decide)) ?_
  refine y_icmp (t := 39) (ck_at dt_Re_readRounds 19 rfl) rfl p1 ⟨by decide, by decide⟩ ?_ ?_
  · intro q; have w := w.1 q
    refine y_op (ck_at dt_Re_readRounds 22 rfl) rfl (o_const _) ?_
    exact y_wk (c_Re_readRounds_40_ok (by omega) hS w) ⟨rfl, ⟨rfl, ⟨rfl, ⟨rfl, ⟨rfl, trivial⟩⟩⟩⟩⟩
  · intro q; have w := w.2 q
    refine y_op (ck_at dt_Re_readRounds 20 rfl) rfl (o_const _) ?_
    refine y_goto (t := 40) (ck_at dt_Re_readRounds 21 rfl) rfl ?_
    exact y_wk (c_Re_readRounds_40_ok (by omega) hS w) ⟨rfl, ⟨rfl, ⟨rfl, ⟨rfl, ⟨rfl, trivial⟩⟩⟩⟩⟩
def c_Re_readRounds_0 (h1 : qH) (d : Nat) (x1 : Int) (x2 : Int) (B : qB) (Q : qO → qB → Prop) : Prop := RI B ∧ R32 (sgC B (B 100 2 + 0)) ∧ (¬ sgC B (B 100 2 + 0) = 43 → c_Re_readRounds_27 h1 d x1 x2 (sgC B (B 100 2 + 0)) 0 (u2 B 100 2 ((B 100 2) + 1)) Q) ∧ (sgC B (B 100 2 + 0) = 43 → c_Re_readRounds_27 h1 d x1 x2 (sgC B (B 100 2 + 0)) 1 (u2 B 100 2 ((B 100 2) + 1)) Q)
theorem c_Re_readRounds_0_ok {h1 : qH} {d : Nat} {x1 : Int} {x2 : Int} {B : qB} {Q : qO → qB → Prop} (hd : 3 ≤ d) (hS : SH B) (w : c_Re_readRounds_0 h1 d x1 x2 B Q) : qY h1 (d + 1) n_Re_readRounds 0 [some (.ref 100), some (iv x1), some (iv x2), none, none, none, none] [] B Q := by
  unfold c_Re_readRounds_0 at w
  obtain ⟨p1, p3, w⟩ := w
  refine y_ldk (ok := q_isA) (n := 0) (ck_at dt_Re_readRounds 0 rfl) rfl rfl (fun _ => rfl) rfl rfl ?_
  refine y_op (ck_at dt_Re_readRounds 1 rfl) rfl (o_const _) ?_
  refine y_virtP (k' := n_Re_see) (n := 2) (as := [iv 0]) (r := []) (ck_at dt_Re_readRounds 2 rfl) own_Re_readRounds (cm_at 41 rfl) vk_Re_see rfl nl_Re_see rfl rfl rfl rfl (SH.o hS ⟨by decide, by decide, by decide⟩) (Y_Re_see (by omega) hS p1 (by decide) (by decide) ⟨rfl, rfl⟩) ?_
  refine y_st1 (ok := q_isI) (n := 3) (L' := [some (.ref 100), some (iv x1), some (iv x2), some (iv (sgC B (B 100 2 + 0))), none, none, none]) (ck_at dt_Re_readRounds 3 rfl) rfl (fun _ => rfl) (fun _ _ => rfl) rfl nl_Re_readRounds (by decide) rfl rfl ?_
  refine y_ldk (ok := q_isA) (n := 0) (ck_at dt_Re_readRounds 4 rfl) rfl rfl (fun _ => rfl) rfl rfl ?_
  refine y_op (ck_at dt_Re_readRounds 5 rfl) rfl rfl ?_
  refine y_getI (K := 6) (j := 2) (a := 100) (ck_at dt_Re_readRounds 6 rfl) own_Re_readRounds (cf_at 25 rfl) rfl rfl rfl ⟨(SH.o hS ⟨by decide, by decide, by decide⟩), ?_⟩
  refine y_op (ck_at dt_Re_readRounds 7 rfl) rfl (o_const _) ?_
  refine y_op (ck_at dt_Re_readRounds 8 rfl) rfl o_iadd ?_
  refine y_putI (K := 6) (j := 2) (a := 100) (ck_at dt_Re_readRounds 9 rfl) own_Re_readRounds (cf_at 25 rfl) rfl rfl rfl rfl rfl ⟨⟨SH.o hS ⟨by decide, by decide, by decide⟩, by decide⟩, ?_⟩
  have hS2 := SH_u2 (b := 100) (x := 2) (z := (B 100 2) + 1) hS (by decide)
  refine y_ldk (ok := q_isI) (n := 3) (ck_at dt_Re_readRounds 10 rfl) rfl rfl (fun _ => rfl) rfl rfl ?_
  refine y_op (ck_at dt_Re_readRounds 11 rfl) rfl (o_bipush _ (by decide)) ?_
  refine y_icmp (t := 26) (ck_at dt_Re_readRounds 12 rfl) rfl p3 ⟨by decide, by decide⟩ ?_ ?_
  · intro q; have w := w.1 q
    refine y_op (ck_at dt_Re_readRounds 15 rfl) rfl (o_const _) ?_
    exact y_wk (c_Re_readRounds_27_ok (by omega) hS2 w) ⟨rfl, ⟨rfl, ⟨rfl, ⟨rfl, trivial⟩⟩⟩⟩
  · intro q; have w := w.2 q
    refine y_op (ck_at dt_Re_readRounds 13 rfl) rfl (o_const _) ?_
    refine y_goto (t := 27) (ck_at dt_Re_readRounds 14 rfl) rfl ?_
    exact y_wk (c_Re_readRounds_27_ok (by omega) hS2 w) ⟨rfl, ⟨rfl, ⟨rfl, ⟨rfl, trivial⟩⟩⟩⟩
/-! PatternTrier$Reader.readAtom(I)I -/
def t_Re_readAtom : List (Nat × Instr × Nat) := [(0, .aload_n 0, 1), (1, .iconst 0, 1), (2, .invokevirtual 47, 3), (5, .istore_n 2, 1), (6, .iload_n 2, 1), (7, .lookupswitch 135 #[(36, 113), (40, 57), (46, 73), (91, 63), (92, 68), (94, 91)], 57), (64, .aload_n 0, 1), (65, .iload_n 1, 1), (66, .invokevirtual 100, 3), (69, .ireturn, 1), (70, .aload_n 0, 1), (71, .invokevirtual 103, 3), (74, .ireturn, 1), (75, .aload_n 0, 1), (76, .invokevirtual 106, 3), (79, .ireturn, 1), (80, .aload_n 0, 1), (81, .dup, 1), (82, .getfield 28, 3), (85, .iconst 1, 1), (86, .iadd, 1), (87, .putfield 28, 3), (90, .aload_n 0, 1), (91, .bipush 24, 2), (93, .iconst 1, 1), (94, .invokevirtual 109, 3), (97, .ireturn, 1), (98, .aload_n 0, 1), (99, .dup, 1), (100, .getfield 28, 3), (103, .iconst 1, 1), (104, .iadd, 1), (105, .putfield 28, 3), (108, .aload_n 0, 1), (109, .getfield 9, 3), (112, .iconst 3, 1), (113, .iconst 0, 1), (114, .iconst 0, 1), (115, .iconst 1, 1), (116, .invokevirtual 76, 3), (119, .ireturn, 1), (120, .aload_n 0, 1), (121, .dup, 1), (122, .getfield 28, 3), (125, .iconst 1, 1), (126, .iadd, 1), (127, .putfield 28, 3), (130, .aload_n 0, 1), (131, .getfield 9, 3), (134, .iconst 4, 1), (135, .iconst 0, 1), (136, .iconst 0, 1), (137, .iconst 1, 1), (138, .invokevirtual 76, 3), (141, .ireturn, 1), (142, .iload_n 2, 1), (143, .ifCond .lt 10, 3), (146, .iload_n 2, 1), (147, .invokestatic 90, 3), (150, .ifCond .eq 13, 3), (153, .aload_n 0, 1), (154, .aload_n 0, 1), (155, .getfield 28, 3), (158, .invokevirtual 50, 3), (161, .iconst 0, 1), (162, .ireturn, 1), (163, .aload_n 0, 1), (164, .dup, 1), (165, .getfield 28, 3), (168, .iconst 1, 1), (169, .iadd, 1), (170, .putfield 28, 3), (173, .aload_n 0, 1), (174, .getfield 9, 3), (177, .iconst 1, 1), (178, .iload_n 2, 1), (179, .iconst 0, 1), (180, .iconst 1, 1), (181, .invokevirtual 76, 3), (184, .ireturn, 1)]
set_option maxRecDepth 100000 in
theorem dt_Re_readAtom : q_ck n_Re_readAtom t_Re_readAtom = true := by decide +kernel
def c_Re_readAtom_97 (h1 : qH) (d : Nat) (s0 : Int) (B : qB) (Q : qO → qB → Prop) : Prop := Q (.inl (some (iv s0))) B
theorem c_Re_readAtom_97_ok {h1 : qH} {d : Nat} {s0 : Int} {B : qB} {Q : qO → qB → Prop} (hd : 2 ≤ d) (hS : SH B) (w : c_Re_readAtom_97 h1 d s0 B Q) : qY h1 (d + 1) n_Re_readAtom 97 [none, none, none] [iv s0] B Q := by
  unfold c_Re_readAtom_97 at w
  exact y_retI (ck_at dt_Re_readAtom 26 rfl) rt_Re_readAtom w
def c_Re_readAtom_79 (h1 : qH) (d : Nat) (s0 : Int) (B : qB) (Q : qO → qB → Prop) : Prop := Q (.inl (some (iv s0))) B
theorem c_Re_readAtom_79_ok {h1 : qH} {d : Nat} {s0 : Int} {B : qB} {Q : qO → qB → Prop} (hd : 2 ≤ d) (hS : SH B) (w : c_Re_readAtom_79 h1 d s0 B Q) : qY h1 (d + 1) n_Re_readAtom 79 [none, none, none] [iv s0] B Q := by
  unfold c_Re_readAtom_79 at w
  exact y_retI (ck_at dt_Re_readAtom 15 rfl) rt_Re_readAtom w
def c_Re_readAtom_74 (h1 : qH) (d : Nat) (s0 : Int) (B : qB) (Q : qO → qB → Prop) : Prop := Q (.inl (some (iv s0))) B
theorem c_Re_readAtom_74_ok {h1 : qH} {d : Nat} {s0 : Int} {B : qB} {Q : qO → qB → Prop} (hd : 2 ≤ d) (hS : SH B) (w : c_Re_readAtom_74 h1 d s0 B Q) : qY h1 (d + 1) n_Re_readAtom 74 [none, none, none] [iv s0] B Q := by
  unfold c_Re_readAtom_74 at w
  exact y_retI (ck_at dt_Re_readAtom 12 rfl) rt_Re_readAtom w
def c_Re_readAtom_69 (h1 : qH) (d : Nat) (s0 : Int) (B : qB) (Q : qO → qB → Prop) : Prop := Q (.inl (some (iv s0))) B
theorem c_Re_readAtom_69_ok {h1 : qH} {d : Nat} {s0 : Int} {B : qB} {Q : qO → qB → Prop} (hd : 2 ≤ d) (hS : SH B) (w : c_Re_readAtom_69 h1 d s0 B Q) : qY h1 (d + 1) n_Re_readAtom 69 [none, none, none] [iv s0] B Q := by
  unfold c_Re_readAtom_69 at w
  exact y_retI (ck_at dt_Re_readAtom 9 rfl) rt_Re_readAtom w
def c_Re_readAtom_0 (h1 : qH) (d : Nat) (x1 : Int) (B : qB) (Q : qO → qB → Prop) : Prop := RI B ∧ R32 (sgC B (B 100 2 + 0)) ∧ (sgC B (B 100 2 + 0) = 36 → 1 ≤ (u2 B 100 2 ((B 100 2) + 1)) 90 8 ∧ (u2 B 100 2 ((B 100 2) + 1)) 90 8 ≤ 408 ∧ Q (.inl (some (iv (adV (u2 B 100 2 ((B 100 2) + 1)))))) (adT (u2 B 100 2 ((B 100 2) + 1)) 4 0 0 1)) ∧ (sgC B (B 100 2 + 0) = 40 → qY h1 d n_Re_readBracket 0 [some (.ref 100), some (iv x1), none, none, none, none, none] [] B (fun o B' => ∃ v : Int, o = .inl (some (iv v)) ∧ SH B' ∧ c_Re_readAtom_69 h1 d v B' Q)) ∧ (sgC B (B 100 2 + 0) = 46 → qY h1 d n_Re_addClass 0 [some (.ref 100), some (iv 24), some (iv 1), none] [] (u2 B 100 2 ((B 100 2) + 1)) (fun o B' => ∃ v : Int, o = .inl (some (iv v)) ∧ SH B' ∧ c_Re_readAtom_97 h1 d v B' Q)) ∧ (sgC B (B 100 2 + 0) = 91 → qY h1 d n_Re_readSet 0 [some (.ref 100), none, none, none] [] B (fun o B' => ∃ v : Int, o = .inl (some (iv v)) ∧ SH B' ∧ c_Re_readAtom_74 h1 d v B' Q)) ∧ (sgC B (B 100 2 + 0) = 92 → qY h1 d n_Re_readEscape 0 [some (.ref 100), none, none] [] B (fun o B' => ∃ v : Int, o = .inl (some (iv v)) ∧ SH B' ∧ c_Re_readAtom_79 h1 d v B' Q)) ∧ (sgC B (B 100 2 + 0) = 94 → 1 ≤ (u2 B 100 2 ((B 100 2) + 1)) 90 8 ∧ (u2 B 100 2 ((B 100 2) + 1)) 90 8 ≤ 408 ∧ Q (.inl (some (iv (adV (u2 B 100 2 ((B 100 2) + 1)))))) (adT (u2 B 100 2 ((B 100 2) + 1)) 3 0 0 1)) ∧ (¬ sgC B (B 100 2 + 0) = 36 → ¬ sgC B (B 100 2 + 0) = 40 → ¬ sgC B (B 100 2 + 0) = 46 → ¬ sgC B (B 100 2 + 0) = 91 → ¬ sgC B (B 100 2 + 0) = 92 → ¬ sgC B (B 100 2 + 0) = 94 → (sgC B (B 100 2 + 0) < 0 → R32 (B 100 3) ∧ Q (.inl (some (iv 0))) (brC B (B 100 2))) ∧ (sgC B (B 100 2 + 0) ≥ 0 → (bi (isQt (sgC B (B 100 2 + 0))) = 0 → 1 ≤ (u2 B 100 2 ((B 100 2) + 1)) 90 8 ∧ (u2 B 100 2 ((B 100 2) + 1)) 90 8 ≤ 408 ∧ Q (.inl (some (iv (adV (u2 B 100 2 ((B 100 2) + 1)))))) (adT (u2 B 100 2 ((B 100 2) + 1)) 1 (sgC B (B 100 2 + 0)) 0 1)) ∧ (¬ bi (isQt (sgC B (B 100 2 + 0))) = 0 → R32 (B 100 3) ∧ Q (.inl (some (iv 0))) (brC B (B 100 2)))))
theorem c_Re_readAtom_0_ok {h1 : qH} {d : Nat} {x1 : Int} {B : qB} {Q : qO → qB → Prop} (hd : 2 ≤ d) (hS : SH B) (w : c_Re_readAtom_0 h1 d x1 B Q) : qY h1 (d + 1) n_Re_readAtom 0 [some (.ref 100), some (iv x1), none] [] B Q := by
  unfold c_Re_readAtom_0 at w
  obtain ⟨p1, p2, w⟩ := w
  refine y_ldk (ok := q_isA) (n := 0) (ck_at dt_Re_readAtom 0 rfl) rfl rfl (fun _ => rfl) rfl rfl ?_
  refine y_op (ck_at dt_Re_readAtom 1 rfl) rfl (o_const _) ?_
  refine y_virtP (k' := n_Re_see) (n := 2) (as := [iv 0]) (r := []) (ck_at dt_Re_readAtom 2 rfl) own_Re_readAtom (cm_at 41 rfl) vk_Re_see rfl nl_Re_see rfl rfl rfl rfl (SH.o hS ⟨by decide, by decide, by decide⟩) (Y_Re_see (by omega) hS p1 (by decide) (by decide) ⟨rfl, rfl⟩) ?_
  refine y_st1 (ok := q_isI) (n := 2) (L' := [some (.ref 100), some (iv x1), some (iv (sgC B (B 100 2 + 0)))]) (ck_at dt_Re_readAtom 3 rfl) rfl (fun _ => rfl) (fun _ _ => rfl) rfl nl_Re_readAtom (by decide) rfl rfl ?_
  refine y_ldk (ok := q_isI) (n := 2) (ck_at dt_Re_readAtom 4 rfl) rfl rfl (fun _ => rfl) rfl rfl ?_
  have hx := p2
  by_cases q0 : sgC B (B 100 2 + 0) = 36
  · have w := w.1 q0
    refine y_swc (c := 36) (t := 120) (ck_at dt_Re_readAtom 5 rfl) rfl (fun _ => rfl) (fun _ _ => rfl) q0 rfl ?_
    obtain ⟨p4, p5, w⟩ := w
    refine y_ldk (ok := q_isA) (n := 0) (ck_at dt_Re_readAtom 41 rfl) rfl rfl (fun _ => rfl) rfl rfl ?_
    refine y_op (ck_at dt_Re_readAtom 42 rfl) rfl rfl ?_
    refine y_getI (K := 6) (j := 2) (a := 100) (ck_at dt_Re_readAtom 43 rfl) own_Re_readAtom (cf_at 25 rfl) rfl rfl rfl ⟨(SH.o hS ⟨by decide, by decide, by decide⟩), ?_⟩
    refine y_op (ck_at dt_Re_readAtom 44 rfl) rfl (o_const _) ?_
    refine y_op (ck_at dt_Re_readAtom 45 rfl) rfl o_iadd ?_
    refine y_putI (K := 6) (j := 2) (a := 100) (ck_at dt_Re_readAtom 46 rfl) own_Re_readAtom (cf_at 25 rfl) rfl rfl rfl rfl rfl ⟨⟨SH.o hS ⟨by decide, by decide, by decide⟩, by decide⟩, ?_⟩
    have hS3 := SH_u2 (b := 100) (x := 2) (z := (B 100 2) + 1) hS (by decide)
    refine y_ldk (ok := q_isA) (n := 0) (ck_at dt_Re_readAtom 47 rfl) rfl rfl (fun _ => rfl) rfl rfl ?_
    refine y_getF (r := 90) (K := 6) (j := 0) (a := 100) (ck_at dt_Re_readAtom 48 rfl) own_Re_readAtom (cf_at 22 rfl) rfl rfl ⟨(SH.o hS3 ⟨by decide, by decide, by decide⟩), ?_⟩
    refine y_op (ck_at dt_Re_readAtom 49 rfl) rfl (o_const _) ?_
    refine y_op (ck_at dt_Re_readAtom 50 rfl) rfl (o_const _) ?_
    refine y_op (ck_at dt_Re_readAtom 51 rfl) rfl (o_const _) ?_
    refine y_op (ck_at dt_Re_readAtom 52 rfl) rfl (o_const _) ?_
    refine y_virtP (k' := n_Tr_add) (n := 1) (as := [iv 4, iv 0, iv 0, iv 1]) (r := []) (ck_at dt_Re_readAtom 53 rfl) own_Re_readAtom (cm_at 49 rfl) vk_Tr_add rfl nl_Tr_add rfl rfl rfl rfl (SH.o hS3 ⟨by decide, by decide, by decide⟩) (Y_Tr_add (by omega) hS3 p4 p5 ⟨by decide, by decide⟩ ⟨rfl, rfl⟩) ?_
    have hS6 : SH (adT (u2 B 100 2 ((B 100 2) + 1)) 4 0 0 1) := S_Tr_add hS3 p4 p5 ⟨by decide, by decide⟩
    exact y_retI (ck_at dt_Re_readAtom 54 rfl) rt_Re_readAtom w
  by_cases q1 : sgC B (B 100 2 + 0) = 40
  · have w := w.2.1 q1
    refine y_swc (c := 40) (t := 64) (ck_at dt_Re_readAtom 5 rfl) rfl (fun _ => rfl) (fun _ _ => rfl) q1 rfl ?_
    refine y_ldk (ok := q_isA) (n := 0) (ck_at dt_Re_readAtom 6 rfl) rfl rfl (fun _ => rfl) rfl rfl ?_
    refine y_ldk (ok := q_isI) (n := 1) (ck_at dt_Re_readAtom 7 rfl) rfl rfl (fun _ => rfl) rfl rfl ?_
    refine y_virt (k' := n_Re_readBracket) (n := 5) (as := [iv x1]) (r := []) (ck_at dt_Re_readAtom 8 rfl) own_Re_readAtom (cm_at 56 rfl) vk_Re_readBracket rfl nl_Re_readBracket rfl rfl rfl rfl ⟨(SH.o hS ⟨by decide, by decide, by decide⟩), ?_⟩
    exact w.mono (Nat.le_refl _) (fun o B' ⟨v, ho, hS', w⟩ => Or.inl ⟨some (iv v), ho, y_wk (c_Re_readAtom_69_ok (by omega) hS' w) trivial⟩)
  by_cases q2 : sgC B (B 100 2 + 0) = 46
  · have w := w.2.2.1 q2
    refine y_swc (c := 46) (t := 80) (ck_at dt_Re_readAtom 5 rfl) rfl (fun _ => rfl) (fun _ _ => rfl) q2 rfl ?_
    refine y_ldk (ok := q_isA) (n := 0) (ck_at dt_Re_readAtom 16 rfl) rfl rfl (fun _ => rfl) rfl rfl ?_
    refine y_op (ck_at dt_Re_readAtom 17 rfl) rfl rfl ?_
    refine y_getI (K := 6) (j := 2) (a := 100) (ck_at dt_Re_readAtom 18 rfl) own_Re_readAtom (cf_at 25 rfl) rfl rfl rfl ⟨(SH.o hS ⟨by decide, by decide, by decide⟩), ?_⟩
    refine y_op (ck_at dt_Re_readAtom 19 rfl) rfl (o_const _) ?_
    refine y_op (ck_at dt_Re_readAtom 20 rfl) rfl o_iadd ?_
    refine y_putI (K := 6) (j := 2) (a := 100) (ck_at dt_Re_readAtom 21 rfl) own_Re_readAtom (cf_at 25 rfl) rfl rfl rfl rfl rfl ⟨⟨SH.o hS ⟨by decide, by decide, by decide⟩, by decide⟩, ?_⟩
    have hS7 := SH_u2 (b := 100) (x := 2) (z := (B 100 2) + 1) hS (by decide)
    refine y_ldk (ok := q_isA) (n := 0) (ck_at dt_Re_readAtom 22 rfl) rfl rfl (fun _ => rfl) rfl rfl ?_
    refine y_op (ck_at dt_Re_readAtom 23 rfl) rfl (o_bipush _ (by decide)) ?_
    refine y_op (ck_at dt_Re_readAtom 24 rfl) rfl (o_const _) ?_
    refine y_virt (k' := n_Re_addClass) (n := 1) (as := [iv 24, iv 1]) (r := []) (ck_at dt_Re_readAtom 25 rfl) own_Re_readAtom (cm_at 59 rfl) vk_Re_addClass rfl nl_Re_addClass rfl rfl rfl rfl ⟨(SH.o hS7 ⟨by decide, by decide, by decide⟩), ?_⟩
    exact w.mono (Nat.le_refl _) (fun o B' ⟨v, ho, hS', w⟩ => Or.inl ⟨some (iv v), ho, y_wk (c_Re_readAtom_97_ok (by omega) hS' w) trivial⟩)
  by_cases q3 : sgC B (B 100 2 + 0) = 91
  · have w := w.2.2.2.1 q3
    refine y_swc (c := 91) (t := 70) (ck_at dt_Re_readAtom 5 rfl) rfl (fun _ => rfl) (fun _ _ => rfl) q3 rfl ?_
    refine y_ldk (ok := q_isA) (n := 0) (ck_at dt_Re_readAtom 10 rfl) rfl rfl (fun _ => rfl) rfl rfl ?_
    refine y_virt (k' := n_Re_readSet) (n := 3) (as := []) (r := []) (ck_at dt_Re_readAtom 11 rfl) own_Re_readAtom (cm_at 57 rfl) vk_Re_readSet rfl nl_Re_readSet rfl rfl rfl rfl ⟨(SH.o hS ⟨by decide, by decide, by decide⟩), ?_⟩
    exact w.mono (Nat.le_refl _) (fun o B' ⟨v, ho, hS', w⟩ => Or.inl ⟨some (iv v), ho, y_wk (c_Re_readAtom_74_ok (by omega) hS' w) trivial⟩)
  by_cases q4 : sgC B (B 100 2 + 0) = 92
  · have w := w.2.2.2.2.1 q4
    refine y_swc (c := 92) (t := 75) (ck_at dt_Re_readAtom 5 rfl) rfl (fun _ => rfl) (fun _ _ => rfl) q4 rfl ?_
    refine y_ldk (ok := q_isA) (n := 0) (ck_at dt_Re_readAtom 13 rfl) rfl rfl (fun _ => rfl) rfl rfl ?_
    refine y_virt (k' := n_Re_readEscape) (n := 2) (as := []) (r := []) (ck_at dt_Re_readAtom 14 rfl) own_Re_readAtom (cm_at 58 rfl) vk_Re_readEscape rfl nl_Re_readEscape rfl rfl rfl rfl ⟨(SH.o hS ⟨by decide, by decide, by decide⟩), ?_⟩
    exact w.mono (Nat.le_refl _) (fun o B' ⟨v, ho, hS', w⟩ => Or.inl ⟨some (iv v), ho, y_wk (c_Re_readAtom_79_ok (by omega) hS' w) trivial⟩)
  by_cases q5 : sgC B (B 100 2 + 0) = 94
  · have w := w.2.2.2.2.2.1 q5
    refine y_swc (c := 94) (t := 98) (ck_at dt_Re_readAtom 5 rfl) rfl (fun _ => rfl) (fun _ _ => rfl) q5 rfl ?_
    obtain ⟨p9, p10, w⟩ := w
    refine y_ldk (ok := q_isA) (n := 0) (ck_at dt_Re_readAtom 27 rfl) rfl rfl (fun _ => rfl) rfl rfl ?_
    refine y_op (ck_at dt_Re_readAtom 28 rfl) rfl rfl ?_
    refine y_getI (K := 6) (j := 2) (a := 100) (ck_at dt_Re_readAtom 29 rfl) own_Re_readAtom (cf_at 25 rfl) rfl rfl rfl ⟨(SH.o hS ⟨by decide, by decide, by decide⟩), ?_⟩
    refine y_op (ck_at dt_Re_readAtom 30 rfl) rfl (o_const _) ?_
    refine y_op (ck_at dt_Re_readAtom 31 rfl) rfl o_iadd ?_
    refine y_putI (K := 6) (j := 2) (a := 100) (ck_at dt_Re_readAtom 32 rfl) own_Re_readAtom (cf_at 25 rfl) rfl rfl rfl rfl rfl ⟨⟨SH.o hS ⟨by decide, by decide, by decide⟩, by decide⟩, ?_⟩
    have hS8 := SH_u2 (b := 100) (x := 2) (z := (B 100 2) + 1) hS (by decide)
    refine y_ldk (ok := q_isA) (n := 0) (ck_at dt_Re_readAtom 33 rfl) rfl rfl (fun _ => rfl) rfl rfl ?_
    refine y_getF (r := 90) (K := 6) (j := 0) (a := 100) (ck_at dt_Re_readAtom 34 rfl) own_Re_readAtom (cf_at 22 rfl) rfl rfl ⟨(SH.o hS8 ⟨by decide, by decide, by decide⟩), ?_⟩
    refine y_op (ck_at dt_Re_readAtom 35 rfl) rfl (o_const _) ?_
    refine y_op (ck_at dt_Re_readAtom 36 rfl) rfl (o_const _) ?_
    refine y_op (ck_at dt_Re_readAtom 37 rfl) rfl (o_const _) ?_
    refine y_op (ck_at dt_Re_readAtom 38 rfl) rfl (o_const _) ?_
    refine y_virtP (k' := n_Tr_add) (n := 1) (as := [iv 3, iv 0, iv 0, iv 1]) (r := []) (ck_at dt_Re_readAtom 39 rfl) own_Re_readAtom (cm_at 49 rfl) vk_Tr_add rfl nl_Tr_add rfl rfl rfl rfl (SH.o hS8 ⟨by decide, by decide, by decide⟩) (Y_Tr_add (by omega) hS8 p9 p10 ⟨by decide, by decide⟩ ⟨rfl, rfl⟩) ?_
    have hS11 : SH (adT (u2 B 100 2 ((B 100 2) + 1)) 3 0 0 1) := S_Tr_add hS8 p9 p10 ⟨by decide, by decide⟩
    exact y_retI (ck_at dt_Re_readAtom 40 rfl) rt_Re_readAtom w
  have w := w.2.2.2.2.2.2 q0 q1 q2 q3 q4 q5
  refine y_lswd (t := 142) (ck_at dt_Re_readAtom 5 rfl) hx (by decide) (fun e he => ?_) rfl ?_
  · simp only [List.mem_cons, List.not_mem_nil, or_false] at he
    rcases he with rfl | rfl | rfl | rfl | rfl | rfl <;> assumption
  refine y_ldk (ok := q_isI) (n := 2) (ck_at dt_Re_readAtom 55 rfl) rfl rfl (fun _ => rfl) rfl rfl ?_
  refine y_ifz (t := 153) (ck_at dt_Re_readAtom 56 rfl) rfl p2 ?_ ?_
  · intro q; have w := w.1 q
    obtain ⟨p12, w⟩ := w
    refine y_ldk (ok := q_isA) (n := 0) (ck_at dt_Re_readAtom 60 rfl) rfl rfl (fun _ => rfl) rfl rfl ?_
    refine y_ldk (ok := q_isA) (n := 0) (ck_at dt_Re_readAtom 61 rfl) rfl rfl (fun _ => rfl) rfl rfl ?_
    refine y_getI (K := 6) (j := 2) (a := 100) (ck_at dt_Re_readAtom 62 rfl) own_Re_readAtom (cf_at 25 rfl) rfl rfl rfl ⟨(SH.o hS ⟨by decide, by decide, by decide⟩), ?_⟩
    refine y_virtV (k' := n_Re_breakAt) (n := 0) (as := [iv (B 100 2)]) (r := []) (ck_at dt_Re_readAtom 63 rfl) own_Re_readAtom (cm_at 42 rfl) vk_Re_breakAt rfl nl_Re_breakAt rfl rfl rfl rfl (SH.o hS ⟨by decide, by decide, by decide⟩) (Y_Re_breakAt (by omega) hS p12 ⟨rfl, rfl⟩) ?_
    have hS13 : SH (brC B (B 100 2)) := S_Re_breakAt hS
    refine y_op (ck_at dt_Re_readAtom 64 rfl) rfl (o_const _) ?_
    exact y_retI (ck_at dt_Re_readAtom 65 rfl) rt_Re_readAtom w
  · intro q; have w := w.2 q
    refine y_ldk (ok := q_isI) (n := 2) (ck_at dt_Re_readAtom 57 rfl) rfl rfl (fun _ => rfl) rfl rfl ?_
    refine y_statP (k' := n_Re_isQuantifier) (n := 0) (as := [iv (sgC B (B 100 2 + 0))]) (r := []) (ck_at dt_Re_readAtom 58 rfl) own_Re_readAtom (cm_at 53 rfl) (cs_at 12 rfl) vk_Re_isQuantifier rfl nl_Re_isQuantifier rfl rfl rfl rfl  (Y_Re_isQuantifier (by omega) hS p2 ⟨rfl, rfl⟩) ?_
    refine y_ifz (t := 163) (ck_at dt_Re_readAtom 59 rfl) rfl (R32_bi _) ?_ ?_
    · intro q; have w := w.1 q
      obtain ⟨p15, p16, w⟩ := w
      refine y_ldk (ok := q_isA) (n := 0) (ck_at dt_Re_readAtom 66 rfl) rfl rfl (fun _ => rfl) rfl rfl ?_
      refine y_op (ck_at dt_Re_readAtom 67 rfl) rfl rfl ?_
      refine y_getI (K := 6) (j := 2) (a := 100) (ck_at dt_Re_readAtom 68 rfl) own_Re_readAtom (cf_at 25 rfl) rfl rfl rfl ⟨(SH.o hS ⟨by decide, by decide, by decide⟩), ?_⟩
      refine y_op (ck_at dt_Re_readAtom 69 rfl) rfl (o_const _) ?_
      refine y_op (ck_at dt_Re_readAtom 70 rfl) rfl o_iadd ?_
      refine y_putI (K := 6) (j := 2) (a := 100) (ck_at dt_Re_readAtom 71 rfl) own_Re_readAtom (cf_at 25 rfl) rfl rfl rfl rfl rfl ⟨⟨SH.o hS ⟨by decide, by decide, by decide⟩, by decide⟩, ?_⟩
      have hS14 := SH_u2 (b := 100) (x := 2) (z := (B 100 2) + 1) hS (by decide)
      refine y_ldk (ok := q_isA) (n := 0) (ck_at dt_Re_readAtom 72 rfl) rfl rfl (fun _ => rfl) rfl rfl ?_
      refine y_getF (r := 90) (K := 6) (j := 0) (a := 100) (ck_at dt_Re_readAtom 73 rfl) own_Re_readAtom (cf_at 22 rfl) rfl rfl ⟨(SH.o hS14 ⟨by decide, by decide, by decide⟩), ?_⟩
      refine y_op (ck_at dt_Re_readAtom 74 rfl) rfl (o_const _) ?_
      refine y_ldk (ok := q_isI) (n := 2) (ck_at dt_Re_readAtom 75 rfl) rfl rfl (fun _ => rfl) rfl rfl ?_
      refine y_op (ck_at dt_Re_readAtom 76 rfl) rfl (o_const _) ?_
      refine y_op (ck_at dt_Re_readAtom 77 rfl) rfl (o_const _) ?_
      refine y_virtP (k' := n_Tr_add) (n := 1) (as := [iv 1, iv (sgC B (B 100 2 + 0)), iv 0, iv 1]) (r := []) (ck_at dt_Re_readAtom 78 rfl) own_Re_readAtom (cm_at 49 rfl) vk_Tr_add rfl nl_Tr_add rfl rfl rfl rfl (SH.o hS14 ⟨by decide, by decide, by decide⟩) (Y_Tr_add (by omega) hS14 p15 p16 ⟨by decide, by decide⟩ ⟨rfl, rfl⟩) ?_
      have hS17 : SH (adT (u2 B 100 2 ((B 100 2) + 1)) 1 (sgC B (B 100 2 + 0)) 0 1) := S_Tr_add hS14 p15 p16 ⟨by decide, by decide⟩
      exact y_retI (ck_at dt_Re_readAtom 79 rfl) rt_Re_readAtom w
    · intro q; have w := w.2 q
      obtain ⟨p18, w⟩ := w
      refine y_ldk (ok := q_isA) (n := 0) (ck_at dt_Re_readAtom 60 rfl) rfl rfl (fun _ => rfl) rfl rfl ?_
      refine y_ldk (ok := q_isA) (n := 0) (ck_at dt_Re_readAtom 61 rfl) rfl rfl (fun _ => rfl) rfl rfl ?_
      refine y_getI (K := 6) (j := 2) (a := 100) (ck_at dt_Re_readAtom 62 rfl) own_Re_readAtom (cf_at 25 rfl) rfl rfl rfl ⟨(SH.o hS ⟨by decide, by decide, by decide⟩), ?_⟩
      refine y_virtV (k' := n_Re_breakAt) (n := 0) (as := [iv (B 100 2)]) (r := []) (ck_at dt_Re_readAtom 63 rfl) own_Re_readAtom (cm_at 42 rfl) vk_Re_breakAt rfl nl_Re_breakAt rfl rfl rfl rfl (SH.o hS ⟨by decide, by decide, by decide⟩) (Y_Re_breakAt (by omega) hS p18 ⟨rfl, rfl⟩) ?_
      have hS19 : SH (brC B (B 100 2)) := S_Re_breakAt hS
      refine y_op (ck_at dt_Re_readAtom 64 rfl) rfl (o_const _) ?_
      exact y_retI (ck_at dt_Re_readAtom 65 rfl) rt_Re_readAtom w
/-! PatternTrier$Reader.readBracket(I)I -/
def t_Re_readBracket : List (Nat × Instr × Nat) := [(0, .aload_n 0, 1), (1, .invokevirtual 146, 3), (4, .istore_n 2, 1), (5, .iload_n 2, 1), (6, .bipush 7, 2), (8, .if_icmp .eq 9, 3), (11, .iload_n 2, 1), (12, .bipush 8, 2), (14, .if_icmp .ne 7, 3), (17, .iconst 1, 1), (18, .goto 4, 3), (21, .iconst 0, 1), (22, .istore_n 3, 1), (23, .iload_n 2, 1), (24, .bipush 9, 2), (26, .if_icmp .ne 16, 3), (29, .aload_n 0, 1), (30, .getfield 31, 3), (33, .bipush 9, 2), (35, .if_icmp .lt 7, 3), (38, .iconst 1, 1), (39, .goto 4, 3), (42, .iconst 0, 1), (43, .istore 4, 2), (45, .iload_n 1, 1), (46, .bipush 10, 2), (48, .if_icmp .ge 19, 3), (51, .iload 4, 2), (53, .ifCond .ne 14, 3), (56, .iload_n 3, 1), (57, .ifCond .eq 21, 3), (60, .aload_n 0, 1), (61, .getfield 34, 3), (64, .ifCond .le 14, 3), (67, .aload_n 0, 1), (68, .aload_n 0, 1), (69, .getfield 28, 3), (72, .invokevirtual 50, 3), (75, .goto 18, 3), (78, .iload_n 2, 1), (79, .iconst (-1), 1), (80, .if_icmp .ne 13, 3), (83, .aload_n 0, 1), (84, .aload_n 0, 1), (85, .getfield 28, 3), (88, .iconst 2, 1), (89, .iadd, 1), (90, .invokevirtual 50, 3), (93, .aload_n 0, 1), (94, .invokevirtual 68, 3), (97, .ifCond .eq 5, 3), (100, .iconst 0, 1), (101, .ireturn, 1), (102, .aload_n 0, 1), (103, .dup, 1), (104, .getfield 28, 3), (107, .iload_n 2, 1), (108, .bipush 9, 2), (110, .if_icmp .ne 7, 3), (113, .iconst 1, 1), (114, .goto 4, 3), (117, .iconst 3, 1), (118, .iadd, 1), (119, .putfield 28, 3), (122, .aload_n 0, 1), (123, .dup, 1), (124, .getfield 31, 3), (127, .iload_n 2, 1), (128, .bipush 9, 2), (130, .if_icmp .ne 7, 3), (133, .iconst 1, 1), (134, .goto 4, 3), (137, .iconst 0, 1), (138, .iadd, 1), (139, .putfield 31, 3), (142, .aload_n 0, 1), (143, .getfield 31, 3), (146, .istore 5, 2), (148, .aload_n 0, 1), (149, .dup, 1), (150, .getfield 37, 3), (153, .iload_n 3, 1), (154, .ifCond .eq 7, 3), (157, .iconst 1, 1), (158, .goto 4, 3), (161, .iconst 0, 1), (162, .iadd, 1), (163, .putfield 37, 3), (166, .aload_n 0, 1), (167, .dup, 1), (168, .getfield 34, 3), (171, .iload_n 3, 1), (172, .ifCond .eq 7, 3), (175, .iconst 1, 1), (176, .goto 4, 3), (179, .iconst 0, 1), (180, .iadd, 1), (181, .putfield 34, 3), (184, .aload_n 0, 1), (185, .iload_n 1, 1), (186, .iconst 1, 1), (187, .iadd, 1), (188, .invokevirtual 40, 3), (191, .istore 6, 2), (193, .aload_n 0, 1), (194, .dup, 1), (195, .getfield 34, 3), (198, .iload_n 3, 1), (199, .ifCond .eq 7, 3), (202, .iconst 1, 1), (203, .goto 4, 3), (206, .iconst 0, 1), (207, .isub, 1), (208, .putfield 34, 3), (211, .aload_n 0, 1), (212, .iconst 0, 1), (213, .invokevirtual 47, 3), (216, .bipush 41, 2), (218, .if_icmp .eq 11, 3), (221, .aload_n 0, 1), (222, .aload_n 0, 1), (223, .getfield 28, 3), (226, .invokevirtual 50, 3), (229, .aload_n 0, 1), (230, .dup, 1), (231, .getfield 28, 3), (234, .iconst 1, 1), (235, .iadd, 1), (236, .putfield 28, 3), (239, .aload_n 0, 1), (240, .getfield 9, 3), (243, .iload_n 2, 1), (244, .iload 5, 2), (246, .iload 6, 2), (248, .aload_n 0, 1), (249, .getfield 9, 3), (252, .iload 6, 2), (254, .invokevirtual 65, 3), (257, .iload_n 2, 1), (258, .bipush 9, 2), (260, .if_icmp .ne 7, 3), (263, .iconst 2, 1), (264, .goto 4, 3), (267, .iconst 1, 1), (268, .iadd, 1), (269, .invokevirtual 76, 3), (272, .ireturn, 1)]
set_option maxRecDepth 100000 in
theorem dt_Re_readBracket : q_ck n_Re_readBracket t_Re_readBracket = true := by decide +kernel
def c_Re_readBracket_229 (h1 : qH) (d : Nat) (x2 : Int) (x5 : Int) (x6 : Int) (B : qB) (Q : qO → qB → Prop) : Prop := 0 ≤ x6 ∧ x6 < 408 ∧ R32 x2 ∧ (¬ x2 = 9 → 1 ≤ (u2 B 100 2 ((B 100 2) + 1)) 90 8 ∧ (u2 B 100 2 ((B 100 2) + 1)) 90 8 ≤ 408 ∧ R32 (((u2 B 100 2 ((B 100 2) + 1)) 97 x6) + 1) ∧ Q (.inl (some (iv (adV (u2 B 100 2 ((B 100 2) + 1)))))) (adT (u2 B 100 2 ((B 100 2) + 1)) x2 x5 x6 (((u2 B 100 2 ((B 100 2) + 1)) 97 x6) + 1))) ∧ (x2 = 9 → 1 ≤ (u2 B 100 2 ((B 100 2) + 1)) 90 8 ∧ (u2 B 100 2 ((B 100 2) + 1)) 90 8 ≤ 408 ∧ R32 (((u2 B 100 2 ((B 100 2) + 1)) 97 x6) + 2) ∧ Q (.inl (some (iv (adV (u2 B 100 2 ((B 100 2) + 1)))))) (adT (u2 B 100 2 ((B 100 2) + 1)) x2 x5 x6 (((u2 B 100 2 ((B 100 2) + 1)) 97 x6) + 2)))
theorem c_Re_readBracket_229_ok {h1 : qH} {d : Nat} {x2 : Int} {x5 : Int} {x6 : Int} {B : qB} {Q : qO → qB → Prop} (hd : 3 ≤ d) (hS : SH B) (w : c_Re_readBracket_229 h1 d x2 x5 x6 B Q) : qY h1 (d + 1) n_Re_readBracket 229 [some (.ref 100), none, some (iv x2), none, none, some (iv x5), some (iv x6)] [] B Q := by
  unfold c_Re_readBracket_229 at w
  obtain ⟨p2, p3, p4, w⟩ := w
  refine y_ldk (ok := q_isA) (n := 0) (ck_at dt_Re_readBracket 123 rfl) rfl rfl (fun _ => rfl) rfl rfl ?_
  refine y_op (ck_at dt_Re_readBracket 124 rfl) rfl rfl ?_
  refine y_getI (K := 6) (j := 2) (a := 100) (ck_at dt_Re_readBracket 125 rfl) own_Re_readBracket (cf_at 25 rfl) rfl rfl rfl ⟨(SH.o hS ⟨by decide, by decide, by decide⟩), ?_⟩
  refine y_op (ck_at dt_Re_readBracket 126 rfl) rfl (o_const _) ?_
  refine y_op (ck_at dt_Re_readBracket 127 rfl) rfl o_iadd ?_
  refine y_putI (K := 6) (j := 2) (a := 100) (ck_at dt_Re_readBracket 128 rfl) own_Re_readBracket (cf_at 25 rfl) rfl rfl rfl rfl rfl ⟨⟨SH.o hS ⟨by decide, by decide, by decide⟩, by decide⟩, ?_⟩
  have hS1 := SH_u2 (b := 100) (x := 2) (z := (B 100 2) + 1) hS (by decide)
  refine y_ldk (ok := q_isA) (n := 0) (ck_at dt_Re_readBracket 129 rfl) rfl rfl (fun _ => rfl) rfl rfl ?_
  refine y_getF (r := 90) (K := 6) (j := 0) (a := 100) (ck_at dt_Re_readBracket 130 rfl) own_Re_readBracket (cf_at 22 rfl) rfl rfl ⟨(SH.o hS1 ⟨by decide, by decide, by decide⟩), ?_⟩
  refine y_ldk (ok := q_isI) (n := 2) (ck_at dt_Re_readBracket 131 rfl) rfl rfl (fun _ => rfl) rfl rfl ?_
  refine y_ldk (ok := q_isI) (n := 5) (ck_at dt_Re_readBracket 132 rfl) rfl rfl (fun _ => rfl) rfl rfl ?_
  refine y_ldk (ok := q_isI) (n := 6) (ck_at dt_Re_readBracket 133 rfl) rfl rfl (fun _ => rfl) rfl rfl ?_
  refine y_ldk (ok := q_isA) (n := 0) (ck_at dt_Re_readBracket 134 rfl) rfl rfl (fun _ => rfl) rfl rfl ?_
  refine y_getF (r := 90) (K := 6) (j := 0) (a := 100) (ck_at dt_Re_readBracket 135 rfl) own_Re_readBracket (cf_at 22 rfl) rfl rfl ⟨(SH.o hS1 ⟨by decide, by decide, by decide⟩), ?_⟩
  refine y_ldk (ok := q_isI) (n := 6) (ck_at dt_Re_readBracket 136 rfl) rfl rfl (fun _ => rfl) rfl rfl ?_
  refine y_virtP (k' := n_Tr_weightOf) (n := 0) (as := [iv x6]) (r := [iv x6, iv x5, iv x2, .ref 90]) (ck_at dt_Re_readBracket 137 rfl) own_Re_readBracket (cm_at 46 rfl) vk_Tr_weightOf rfl nl_Tr_weightOf rfl rfl rfl rfl (SH.o hS1 ⟨by decide, by decide, by decide⟩) (Y_Tr_weightOf (by omega) hS1 p2 p3 ⟨rfl, rfl⟩) ?_
  refine y_ldk (ok := q_isI) (n := 2) (ck_at dt_Re_readBracket 138 rfl) rfl rfl (fun _ => rfl) rfl rfl ?_
  refine y_op (ck_at dt_Re_readBracket 139 rfl) rfl (o_bipush _ (by decide)) ?_
  refine y_icmp (t := 267) (ck_at dt_Re_readBracket 140 rfl) rfl p4 ⟨by decide, by decide⟩ ?_ ?_
  · intro q; have w := w.1 q
    obtain ⟨p5, p6, p7, w⟩ := w
    refine y_op (ck_at dt_Re_readBracket 143 rfl) rfl (o_const _) ?_
    refine y_op (ck_at dt_Re_readBracket 144 rfl) rfl o_iadd ?_
    refine y_virtP (k' := n_Tr_add) (n := 1) (as := [iv x2, iv x5, iv x6, iv (((u2 B 100 2 ((B 100 2) + 1)) 97 x6) + 1)]) (r := []) (ck_at dt_Re_readBracket 145 rfl) own_Re_readBracket (cm_at 49 rfl) vk_Tr_add rfl nl_Tr_add rfl rfl rfl rfl (SH.o hS1 ⟨by decide, by decide, by decide⟩) (Y_Tr_add (by omega) hS1 p5 p6 p7 ⟨rfl, rfl⟩) ?_
    have hS8 : SH (adT (u2 B 100 2 ((B 100 2) + 1)) x2 x5 x6 (((u2 B 100 2 ((B 100 2) + 1)) 97 x6) + 1)) := S_Tr_add hS1 p5 p6 p7
    exact y_retI (ck_at dt_Re_readBracket 146 rfl) rt_Re_readBracket w
  · intro q; have w := w.2 q
    obtain ⟨p9, p10, p11, w⟩ := w
    refine y_op (ck_at dt_Re_readBracket 141 rfl) rfl (o_const _) ?_
    refine y_goto (t := 268) (ck_at dt_Re_readBracket 142 rfl) rfl ?_
    refine y_op (ck_at dt_Re_readBracket 144 rfl) rfl o_iadd ?_
    refine y_virtP (k' := n_Tr_add) (n := 1) (as := [iv x2, iv x5, iv x6, iv (((u2 B 100 2 ((B 100 2) + 1)) 97 x6) + 2)]) (r := []) (ck_at dt_Re_readBracket 145 rfl) own_Re_readBracket (cm_at 49 rfl) vk_Tr_add rfl nl_Tr_add rfl rfl rfl rfl (SH.o hS1 ⟨by decide, by decide, by decide⟩) (Y_Tr_add (by omega) hS1 p9 p10 p11 ⟨rfl, rfl⟩) ?_
    have hS12 : SH (adT (u2 B 100 2 ((B 100 2) + 1)) x2 x5 x6 (((u2 B 100 2 ((B 100 2) + 1)) 97 x6) + 2)) := S_Tr_add hS1 p9 p10 p11
    exact y_retI (ck_at dt_Re_readBracket 146 rfl) rt_Re_readBracket w
def c_Re_readBracket_207 (h1 : qH) (d : Nat) (x2 : Int) (x5 : Int) (x6 : Int) (s1 : Int) (s2 : Int) (B : qB) (Q : qO → qB → Prop) : Prop := RI (u2 B 100 6 (s1 - s2)) ∧ R32 (sgC (u2 B 100 6 (s1 - s2)) ((u2 B 100 6 (s1 - s2)) 100 2 + 0)) ∧ (sgC (u2 B 100 6 (s1 - s2)) ((u2 B 100 6 (s1 - s2)) 100 2 + 0) = 41 → c_Re_readBracket_229 h1 d x2 x5 x6 (u2 B 100 6 (s1 - s2)) Q) ∧ (¬ sgC (u2 B 100 6 (s1 - s2)) ((u2 B 100 6 (s1 - s2)) 100 2 + 0) = 41 → R32 ((u2 B 100 6 (s1 - s2)) 100 3) ∧ c_Re_readBracket_229 h1 d x2 x5 x6 (brC (u2 B 100 6 (s1 - s2)) (B 100 2)) Q)
theorem c_Re_readBracket_207_ok {h1 : qH} {d : Nat} {x2 : Int} {x5 : Int} {x6 : Int} {s1 : Int} {s2 : Int} {B : qB} {Q : qO → qB → Prop} (hd : 3 ≤ d) (hS : SH B) (w : c_Re_readBracket_207 h1 d x2 x5 x6 s1 s2 B Q) : qY h1 (d + 1) n_Re_readBracket 207 [some (.ref 100), none, some (iv x2), none, none, some (iv x5), some (iv x6)] [iv s2, iv s1, .ref 100] B Q := by
  unfold c_Re_readBracket_207 at w
  obtain ⟨p2, p3, w⟩ := w
  refine y_op (ck_at dt_Re_readBracket 112 rfl) rfl o_isub ?_
  refine y_putI (K := 6) (j := 6) (a := 100) (ck_at dt_Re_readBracket 113 rfl) own_Re_readBracket (cf_at 27 rfl) rfl rfl rfl rfl rfl ⟨⟨SH.o hS ⟨by decide, by decide, by decide⟩, by decide⟩, ?_⟩
  have hS1 := SH_u2 (b := 100) (x := 6) (z := s1 - s2) hS (by decide)
  refine y_ldk (ok := q_isA) (n := 0) (ck_at dt_Re_readBracket 114 rfl) rfl rfl (fun _ => rfl) rfl rfl ?_
  refine y_op (ck_at dt_Re_readBracket 115 rfl) rfl (o_const _) ?_
  refine y_virtP (k' := n_Re_see) (n := 2) (as := [iv 0]) (r := []) (ck_at dt_Re_readBracket 116 rfl) own_Re_readBracket (cm_at 41 rfl) vk_Re_see rfl nl_Re_see rfl rfl rfl rfl (SH.o hS1 ⟨by decide, by decide, by decide⟩) (Y_Re_see (by omega) hS1 p2 (by decide) (by decide) ⟨rfl, rfl⟩) ?_
  refine y_op (ck_at dt_Re_readBracket 117 rfl) rfl (o_bipush _ (by decide)) ?_
  refine y_icmp (t := 229) (ck_at dt_Re_readBracket 118 rfl) rfl p3 ⟨by decide, by decide⟩ ?_ ?_
  · intro q; have w := w.1 q
    exact y_wk (c_Re_readBracket_229_ok (by omega) hS1 w) ⟨rfl, ⟨rfl, ⟨rfl, ⟨rfl, trivial⟩⟩⟩⟩
  · intro q; have w := w.2 q
    obtain ⟨p4, w⟩ := w
    refine y_ldk (ok := q_isA) (n := 0) (ck_at dt_Re_readBracket 119 rfl) rfl rfl (fun _ => rfl) rfl rfl ?_
    refine y_ldk (ok := q_isA) (n := 0) (ck_at dt_Re_readBracket 120 rfl) rfl rfl (fun _ => rfl) rfl rfl ?_
    refine y_getI (K := 6) (j := 2) (a := 100) (ck_at dt_Re_readBracket 121 rfl) own_Re_readBracket (cf_at 25 rfl) rfl rfl rfl ⟨(SH.o hS1 ⟨by decide, by decide, by decide⟩), ?_⟩
    refine y_virtV (k' := n_Re_breakAt) (n := 0) (as := [iv (B 100 2)]) (r := []) (ck_at dt_Re_readBracket 122 rfl) own_Re_readBracket (cm_at 42 rfl) vk_Re_breakAt rfl nl_Re_breakAt rfl rfl rfl rfl (SH.o hS1 ⟨by decide, by decide, by decide⟩) (Y_Re_breakAt (by omega) hS1 p4 ⟨rfl, rfl⟩) ?_
    have hS5 : SH (brC (u2 B 100 6 (s1 - s2)) (B 100 2)) := S_Re_breakAt hS1
    exact y_wk (c_Re_readBracket_229_ok (by omega) hS5 w) ⟨rfl, ⟨rfl, ⟨rfl, ⟨rfl, trivial⟩⟩⟩⟩
def c_Re_readBracket_191 (h1 : qH) (d : Nat) (x2 : Int) (x3 : Int) (x5 : Int) (s0 : Int) (B : qB) (Q : qO → qB → Prop) : Prop := R32 x3 ∧ (x3 = 0 → c_Re_readBracket_207 h1 d x2 x5 s0 (B 100 6) 0 B Q) ∧ (¬ x3 = 0 → c_Re_readBracket_207 h1 d x2 x5 s0 (B 100 6) 1 B Q)
theorem c_Re_readBracket_191_ok {h1 : qH} {d : Nat} {x2 : Int} {x3 : Int} {x5 : Int} {s0 : Int} {B : qB} {Q : qO → qB → Prop} (hd : 3 ≤ d) (hS : SH B) (w : c_Re_readBracket_191 h1 d x2 x3 x5 s0 B Q) : qY h1 (d + 1) n_Re_readBracket 191 [some (.ref 100), none, some (iv x2), some (iv x3), none, some (iv x5), none] [iv s0] B Q := by
  unfold c_Re_readBracket_191 at w
  obtain ⟨p1, w⟩ := w
  refine y_st1 (ok := q_isI) (n := 6) (L' := [some (.ref 100), none, some (iv x2), some (iv x3), none, some (iv x5), some (iv s0)]) (ck_at dt_Re_readBracket 103 rfl) rfl (fun _ => rfl) (fun _ _ => rfl) rfl nl_Re_readBracket (by decide) rfl rfl ?_
  refine y_ldk (ok := q_isA) (n := 0) (ck_at dt_Re_readBracket 104 rfl) rfl rfl (fun _ => rfl) rfl rfl ?_
  refine y_op (ck_at dt_Re_readBracket 105 rfl) rfl rfl ?_
  refine y_getI (K := 6) (j := 6) (a := 100) (ck_at dt_Re_readBracket 106 rfl) own_Re_readBracket (cf_at 27 rfl) rfl rfl rfl ⟨(SH.o hS ⟨by decide, by decide, by decide⟩), ?_⟩
  refine y_ldk (ok := q_isI) (n := 3) (ck_at dt_Re_readBracket 107 rfl) rfl rfl (fun _ => rfl) rfl rfl ?_
  refine y_ifz (t := 206) (ck_at dt_Re_readBracket 108 rfl) rfl p1 ?_ ?_
  · intro q; have w := w.1 q
    refine y_op (ck_at dt_Re_readBracket 111 rfl) rfl (o_const _) ?_
    exact y_wk (c_Re_readBracket_207_ok (by omega) hS w) ⟨rfl, ⟨rfl, ⟨rfl, ⟨rfl, trivial⟩⟩⟩⟩
  · intro q; have w := w.2 q
    refine y_op (ck_at dt_Re_readBracket 109 rfl) rfl (o_const _) ?_
    refine y_goto (t := 207) (ck_at dt_Re_readBracket 110 rfl) rfl ?_
    exact y_wk (c_Re_readBracket_207_ok (by omega) hS w) ⟨rfl, ⟨rfl, ⟨rfl, ⟨rfl, trivial⟩⟩⟩⟩
def c_Re_readBracket_180 (h1 : qH) (d : Nat) (x1 : Int) (x2 : Int) (x3 : Int) (x5 : Int) (s1 : Int) (s2 : Int) (B : qB) (Q : qO → qB → Prop) : Prop := qY h1 d n_Re_readWays 0 [some (.ref 100), some (iv (x1 + 1)), none, none, none, none] [] (u2 B 100 6 (s1 + s2)) (fun o B' => ∃ v : Int, o = .inl (some (iv v)) ∧ SH B' ∧ c_Re_readBracket_191 h1 d x2 x3 x5 v B' Q)
theorem c_Re_readBracket_180_ok {h1 : qH} {d : Nat} {x1 : Int} {x2 : Int} {x3 : Int} {x5 : Int} {s1 : Int} {s2 : Int} {B : qB} {Q : qO → qB → Prop} (hd : 3 ≤ d) (hS : SH B) (w : c_Re_readBracket_180 h1 d x1 x2 x3 x5 s1 s2 B Q) : qY h1 (d + 1) n_Re_readBracket 180 [some (.ref 100), some (iv x1), some (iv x2), some (iv x3), none, some (iv x5), none] [iv s2, iv s1, .ref 100] B Q := by
  unfold c_Re_readBracket_180 at w
  refine y_op (ck_at dt_Re_readBracket 96 rfl) rfl o_iadd ?_
  refine y_putI (K := 6) (j := 6) (a := 100) (ck_at dt_Re_readBracket 97 rfl) own_Re_readBracket (cf_at 27 rfl) rfl rfl rfl rfl rfl ⟨⟨SH.o hS ⟨by decide, by decide, by decide⟩, by decide⟩, ?_⟩
  have hS1 := SH_u2 (b := 100) (x := 6) (z := s1 + s2) hS (by decide)
  refine y_ldk (ok := q_isA) (n := 0) (ck_at dt_Re_readBracket 98 rfl) rfl rfl (fun _ => rfl) rfl rfl ?_
  refine y_ldk (ok := q_isI) (n := 1) (ck_at dt_Re_readBracket 99 rfl) rfl rfl (fun _ => rfl) rfl rfl ?_
  refine y_op (ck_at dt_Re_readBracket 100 rfl) rfl (o_const _) ?_
  refine y_op (ck_at dt_Re_readBracket 101 rfl) rfl o_iadd ?_
  refine y_virt (k' := n_Re_readWays) (n := 4) (as := [iv (x1 + 1)]) (r := []) (ck_at dt_Re_readBracket 102 rfl) own_Re_readBracket (cm_at 40 rfl) vk_Re_readWays rfl nl_Re_readWays rfl rfl rfl rfl ⟨(SH.o hS1 ⟨by decide, by decide, by decide⟩), ?_⟩
  exact w.mono (Nat.le_refl _) (fun o B' ⟨v, ho, hS', w⟩ => Or.inl ⟨some (iv v), ho, y_wk (c_Re_readBracket_191_ok (by omega) hS' w) ⟨rfl, ⟨rfl, ⟨rfl, ⟨rfl, trivial⟩⟩⟩⟩⟩)
def c_Re_readBracket_162 (h1 : qH) (d : Nat) (x1 : Int) (x2 : Int) (x3 : Int) (x5 : Int) (s1 : Int) (s2 : Int) (B : qB) (Q : qO → qB → Prop) : Prop := R32 x3 ∧ (x3 = 0 → c_Re_readBracket_180 h1 d x1 x2 x3 x5 (B 100 6) 0 (u2 B 100 7 (s1 + s2)) Q) ∧ (¬ x3 = 0 → c_Re_readBracket_180 h1 d x1 x2 x3 x5 (B 100 6) 1 (u2 B 100 7 (s1 + s2)) Q)
theorem c_Re_readBracket_162_ok {h1 : qH} {d : Nat} {x1 : Int} {x2 : Int} {x3 : Int} {x5 : Int} {s1 : Int} {s2 : Int} {B : qB} {Q : qO → qB → Prop} (hd : 3 ≤ d) (hS : SH B) (w : c_Re_readBracket_162 h1 d x1 x2 x3 x5 s1 s2 B Q) : qY h1 (d + 1) n_Re_readBracket 162 [some (.ref 100), some (iv x1), some (iv x2), some (iv x3), none, some (iv x5), none] [iv s2, iv s1, .ref 100] B Q := by
  unfold c_Re_readBracket_162 at w
  obtain ⟨p2, w⟩ := w
  refine y_op (ck_at dt_Re_readBracket 86 rfl) rfl o_iadd ?_
  refine y_putI (K := 6) (j := 7) (a := 100) (ck_at dt_Re_readBracket 87 rfl) own_Re_readBracket (cf_at 28 rfl) rfl rfl rfl rfl rfl ⟨⟨SH.o hS ⟨by decide, by decide, by decide⟩, by decide⟩, ?_⟩
  have hS1 := SH_u2 (b := 100) (x := 7) (z := s1 + s2) hS (by decide)
  refine y_ldk (ok := q_isA) (n := 0) (ck_at dt_Re_readBracket 88 rfl) rfl rfl (fun _ => rfl) rfl rfl ?_
  refine y_op (ck_at dt_Re_readBracket 89 rfl) rfl rfl ?_
  refine y_getI (K := 6) (j := 6) (a := 100) (ck_at dt_Re_readBracket 90 rfl) own_Re_readBracket (cf_at 27 rfl) rfl rfl rfl ⟨(SH.o hS1 ⟨by decide, by decide, by decide⟩), ?_⟩
  refine y_ldk (ok := q_isI) (n := 3) (ck_at dt_Re_readBracket 91 rfl) rfl rfl (fun _ => rfl) rfl rfl ?_
  refine y_ifz (t := 179) (ck_at dt_Re_readBracket 92 rfl) rfl p2 ?_ ?_
  · intro q; have w := w.1 q
    refine y_op (ck_at dt_Re_readBracket 95 rfl) rfl (o_const _) ?_
    exact y_wk (c_Re_readBracket_180_ok (by omega) hS1 w) ⟨rfl, ⟨rfl, ⟨rfl, ⟨rfl, ⟨rfl, trivial⟩⟩⟩⟩⟩
  · intro q; have w := w.2 q
    refine y_op (ck_at dt_Re_readBracket 93 rfl) rfl (o_const _) ?_
    refine y_goto (t := 180) (ck_at dt_Re_readBracket 94 rfl) rfl ?_
    exact y_wk (c_Re_readBracket_180_ok (by omega) hS1 w) ⟨rfl, ⟨rfl, ⟨rfl, ⟨rfl, ⟨rfl, trivial⟩⟩⟩⟩⟩
def c_Re_readBracket_138 (h1 : qH) (d : Nat) (x1 : Int) (x2 : Int) (x3 : Int) (s1 : Int) (s2 : Int) (B : qB) (Q : qO → qB → Prop) : Prop := R32 x3 ∧ (x3 = 0 → c_Re_readBracket_162 h1 d x1 x2 x3 (s1 + s2) (B 100 7) 0 (u2 B 100 5 (s1 + s2)) Q) ∧ (¬ x3 = 0 → c_Re_readBracket_162 h1 d x1 x2 x3 (s1 + s2) (B 100 7) 1 (u2 B 100 5 (s1 + s2)) Q)
theorem c_Re_readBracket_138_ok {h1 : qH} {d : Nat} {x1 : Int} {x2 : Int} {x3 : Int} {s1 : Int} {s2 : Int} {B : qB} {Q : qO → qB → Prop} (hd : 3 ≤ d) (hS : SH B) (w : c_Re_readBracket_138 h1 d x1 x2 x3 s1 s2 B Q) : qY h1 (d + 1) n_Re_readBracket 138 [some (.ref 100), some (iv x1), some (iv x2), some (iv x3), none, none, none] [iv s2, iv s1, .ref 100] B Q := by
  unfold c_Re_readBracket_138 at w
  obtain ⟨p2, w⟩ := w
  refine y_op (ck_at dt_Re_readBracket 73 rfl) rfl o_iadd ?_
  refine y_putI (K := 6) (j := 5) (a := 100) (ck_at dt_Re_readBracket 74 rfl) own_Re_readBracket (cf_at 26 rfl) rfl rfl rfl rfl rfl ⟨⟨SH.o hS ⟨by decide, by decide, by decide⟩, by decide⟩, ?_⟩
  have hS1 := SH_u2 (b := 100) (x := 5) (z := s1 + s2) hS (by decide)
  refine y_ldk (ok := q_isA) (n := 0) (ck_at dt_Re_readBracket 75 rfl) rfl rfl (fun _ => rfl) rfl rfl ?_
  refine y_getI (K := 6) (j := 5) (a := 100) (ck_at dt_Re_readBracket 76 rfl) own_Re_readBracket (cf_at 26 rfl) rfl rfl rfl ⟨(SH.o hS1 ⟨by decide, by decide, by decide⟩), ?_⟩
  refine y_st1 (ok := q_isI) (n := 5) (L' := [some (.ref 100), some (iv x1), some (iv x2), some (iv x3), none, some (iv (s1 + s2)), none]) (ck_at dt_Re_readBracket 77 rfl) rfl (fun _ => rfl) (fun _ _ => rfl) rfl nl_Re_readBracket (by decide) trivial rfl ?_
  refine y_ldk (ok := q_isA) (n := 0) (ck_at dt_Re_readBracket 78 rfl) rfl rfl (fun _ => rfl) rfl rfl ?_
  refine y_op (ck_at dt_Re_readBracket 79 rfl) rfl rfl ?_
  refine y_getI (K := 6) (j := 7) (a := 100) (ck_at dt_Re_readBracket 80 rfl) own_Re_readBracket (cf_at 28 rfl) rfl rfl rfl ⟨(SH.o hS1 ⟨by decide, by decide, by decide⟩), ?_⟩
  refine y_ldk (ok := q_isI) (n := 3) (ck_at dt_Re_readBracket 81 rfl) rfl rfl (fun _ => rfl) rfl rfl ?_
  refine y_ifz (t := 161) (ck_at dt_Re_readBracket 82 rfl) rfl p2 ?_ ?_
  · intro q; have w := w.1 q
    refine y_op (ck_at dt_Re_readBracket 85 rfl) rfl (o_const _) ?_
    exact y_wk (c_Re_readBracket_162_ok (by omega) hS1 w) ⟨rfl, ⟨rfl, ⟨rfl, ⟨rfl, ⟨rfl, trivial⟩⟩⟩⟩⟩
  · intro q; have w := w.2 q
    refine y_op (ck_at dt_Re_readBracket 83 rfl) rfl (o_const _) ?_
    refine y_goto (t := 162) (ck_at dt_Re_readBracket 84 rfl) rfl ?_
    exact y_wk (c_Re_readBracket_162_ok (by omega) hS1 w) ⟨rfl, ⟨rfl, ⟨rfl, ⟨rfl, ⟨rfl, trivial⟩⟩⟩⟩⟩
def c_Re_readBracket_118 (h1 : qH) (d : Nat) (x1 : Int) (x2 : Int) (x3 : Int) (s1 : Int) (s2 : Int) (B : qB) (Q : qO → qB → Prop) : Prop := R32 x2 ∧ (¬ x2 = 9 → c_Re_readBracket_138 h1 d x1 x2 x3 (B 100 5) 0 (u2 B 100 2 (s1 + s2)) Q) ∧ (x2 = 9 → c_Re_readBracket_138 h1 d x1 x2 x3 (B 100 5) 1 (u2 B 100 2 (s1 + s2)) Q)
theorem c_Re_readBracket_118_ok {h1 : qH} {d : Nat} {x1 : Int} {x2 : Int} {x3 : Int} {s1 : Int} {s2 : Int} {B : qB} {Q : qO → qB → Prop} (hd : 3 ≤ d) (hS : SH B) (w : c_Re_readBracket_118 h1 d x1 x2 x3 s1 s2 B Q) : qY h1 (d + 1) n_Re_readBracket 118 [some (.ref 100), some (iv x1), some (iv x2), some (iv x3), none, none, none] [iv s2, iv s1, .ref 100] B Q := by
  unfold c_Re_readBracket_118 at w
  obtain ⟨p2, w⟩ := w
  refine y_op (ck_at dt_Re_readBracket 62 rfl) rfl o_iadd ?_
  refine y_putI (K := 6) (j := 2) (a := 100) (ck_at dt_Re_readBracket 63 rfl) own_Re_readBracket (cf_at 25 rfl) rfl rfl rfl rfl rfl ⟨⟨SH.o hS ⟨by decide, by decide, by decide⟩, by decide⟩, ?_⟩
  have hS1 := SH_u2 (b := 100) (x := 2) (z := s1 + s2) hS (by decide)
  refine y_ldk (ok := q_isA) (n := 0) (ck_at dt_Re_readBracket 64 rfl) rfl rfl (fun _ => rfl) rfl rfl ?_
  refine y_op (ck_at dt_Re_readBracket 65 rfl) rfl rfl ?_
  refine y_getI (K := 6) (j := 5) (a := 100) (ck_at dt_Re_readBracket 66 rfl) own_Re_readBracket (cf_at 26 rfl) rfl rfl rfl ⟨(SH.o hS1 ⟨by decide, by decide, by decide⟩), ?_⟩
  refine y_ldk (ok := q_isI) (n := 2) (ck_at dt_Re_readBracket 67 rfl) rfl rfl (fun _ => rfl) rfl rfl ?_
  refine y_op (ck_at dt_Re_readBracket 68 rfl) rfl (o_bipush _ (by decide)) ?_
  refine y_icmp (t := 137) (ck_at dt_Re_readBracket 69 rfl) rfl p2 ⟨by decide, by decide⟩ ?_ ?_
  · intro q; have w := w.1 q
    refine y_op (ck_at dt_Re_readBracket 72 rfl) rfl (o_const _) ?_
    exact y_wk (c_Re_readBracket_138_ok (by omega) hS1 w) ⟨rfl, ⟨rfl, ⟨rfl, ⟨rfl, trivial⟩⟩⟩⟩
  · intro q; have w := w.2 q
    refine y_op (ck_at dt_Re_readBracket 70 rfl) rfl (o_const _) ?_
    refine y_goto (t := 138) (ck_at dt_Re_readBracket 71 rfl) rfl ?_
    exact y_wk (c_Re_readBracket_138_ok (by omega) hS1 w) ⟨rfl, ⟨rfl, ⟨rfl, ⟨rfl, trivial⟩⟩⟩⟩
def c_Re_readBracket_93 (h1 : qH) (d : Nat) (x1 : Int) (x2 : Int) (x3 : Int) (B : qB) (Q : qO → qB → Prop) : Prop := R32 (B 100 3) ∧ (bi (decide (¬ B 100 3 = (-1))) = 0 → R32 x2 ∧ (¬ x2 = 9 → c_Re_readBracket_118 h1 d x1 x2 x3 (B 100 2) 3 B Q) ∧ (x2 = 9 → c_Re_readBracket_118 h1 d x1 x2 x3 (B 100 2) 1 B Q)) ∧ (¬ bi (decide (¬ B 100 3 = (-1))) = 0 → Q (.inl (some (iv 0))) B)
theorem c_Re_readBracket_93_ok {h1 : qH} {d : Nat} {x1 : Int} {x2 : Int} {x3 : Int} {B : qB} {Q : qO → qB → Prop} (hd : 3 ≤ d) (hS : SH B) (w : c_Re_readBracket_93 h1 d x1 x2 x3 B Q) : qY h1 (d + 1) n_Re_readBracket 93 [some (.ref 100), some (iv x1), some (iv x2), some (iv x3), none, none, none] [] B Q := by
  unfold c_Re_readBracket_93 at w
  obtain ⟨p1, w⟩ := w
  refine y_ldk (ok := q_isA) (n := 0) (ck_at dt_Re_readBracket 48 rfl) rfl rfl (fun _ => rfl) rfl rfl ?_
  refine y_virtP (k' := n_Re_isBroken) (n := 0) (as := []) (r := []) (ck_at dt_Re_readBracket 49 rfl) own_Re_readBracket (cm_at 47 rfl) vk_Re_isBroken rfl nl_Re_isBroken rfl rfl rfl rfl (SH.o hS ⟨by decide, by decide, by decide⟩) (Y_Re_isBroken (by omega) hS p1 ⟨rfl, rfl⟩) ?_
  refine y_ifz (t := 102) (ck_at dt_Re_readBracket 50 rfl) rfl (R32_bi _) ?_ ?_
  · intro q; have w := w.1 q
    obtain ⟨p2, w⟩ := w
    refine y_ldk (ok := q_isA) (n := 0) (ck_at dt_Re_readBracket 53 rfl) rfl rfl (fun _ => rfl) rfl rfl ?_
    refine y_op (ck_at dt_Re_readBracket 54 rfl) rfl rfl ?_
    refine y_getI (K := 6) (j := 2) (a := 100) (ck_at dt_Re_readBracket 55 rfl) own_Re_readBracket (cf_at 25 rfl) rfl rfl rfl ⟨(SH.o hS ⟨by decide, by decide, by decide⟩), ?_⟩
    refine y_ldk (ok := q_isI) (n := 2) (ck_at dt_Re_readBracket 56 rfl) rfl rfl (fun _ => rfl) rfl rfl ?_
    refine y_op (ck_at dt_Re_readBracket 57 rfl) rfl (o_bipush _ (by decide)) ?_
    refine y_icmp (t := 117) (ck_at dt_Re_readBracket 58 rfl) rfl p2 ⟨by decide, by decide⟩ ?_ ?_
    · intro q; have w := w.1 q
      refine y_op (ck_at dt_Re_readBracket 61 rfl) rfl (o_const _) ?_
      exact y_wk (c_Re_readBracket_118_ok (by omega) hS w) ⟨rfl, ⟨rfl, ⟨rfl, ⟨rfl, trivial⟩⟩⟩⟩
    · intro q; have w := w.2 q
      refine y_op (ck_at dt_Re_readBracket 59 rfl) rfl (o_const _) ?_
      refine y_goto (t := 118) (ck_at dt_Re_readBracket 60 rfl) rfl ?_
      exact y_wk (c_Re_readBracket_118_ok (by omega) hS w) ⟨rfl, ⟨rfl, ⟨rfl, ⟨rfl, trivial⟩⟩⟩⟩
  · intro q; have w := w.2 q
    refine y_op (ck_at dt_Re_readBracket 51 rfl) rfl (o_const _) ?_
    exact y_retI (ck_at dt_Re_readBracket 52 rfl) rt_Re_readBracket w
def c_Re_readBracket_78 (h1 : qH) (d : Nat) (x1 : Int) (x2 : Int) (x3 : Int) (B : qB) (Q : qO → qB → Prop) : Prop := R32 x2 ∧ (¬ x2 = (-1) → c_Re_readBracket_93 h1 d x1 x2 x3 B Q) ∧ (x2 = (-1) → R32 (B 100 3) ∧ c_Re_readBracket_93 h1 d x1 x2 x3 (brC B ((B 100 2) + 2)) Q)
theorem c_Re_readBracket_78_ok {h1 : qH} {d : Nat} {x1 : Int} {x2 : Int} {x3 : Int} {B : qB} {Q : qO → qB → Prop} (hd : 3 ≤ d) (hS : SH B) (w : c_Re_readBracket_78 h1 d x1 x2 x3 B Q) : qY h1 (d + 1) n_Re_readBracket 78 [some (.ref 100), some (iv x1), some (iv x2), some (iv x3), none, none, none] [] B Q := by
  unfold c_Re_readBracket_78 at w
  obtain ⟨p1, w⟩ := w
  refine y_ldk (ok := q_isI) (n := 2) (ck_at dt_Re_readBracket 39 rfl) rfl rfl (fun _ => rfl) rfl rfl ?_
  refine y_op (ck_at dt_Re_readBracket 40 rfl) rfl (o_const _) ?_
  refine y_icmp (t := 93) (ck_at dt_Re_readBracket 41 rfl) rfl p1 ⟨by decide, by decide⟩ ?_ ?_
  · intro q; have w := w.1 q
    exact y_wk (c_Re_readBracket_93_ok (by omega) hS w) ⟨rfl, ⟨rfl, ⟨rfl, ⟨rfl, trivial⟩⟩⟩⟩
  · intro q; have w := w.2 q
    obtain ⟨p2, w⟩ := w
    refine y_ldk (ok := q_isA) (n := 0) (ck_at dt_Re_readBracket 42 rfl) rfl rfl (fun _ => rfl) rfl rfl ?_
    refine y_ldk (ok := q_isA) (n := 0) (ck_at dt_Re_readBracket 43 rfl) rfl rfl (fun _ => rfl) rfl rfl ?_
    refine y_getI (K := 6) (j := 2) (a := 100) (ck_at dt_Re_readBracket 44 rfl) own_Re_readBracket (cf_at 25 rfl) rfl rfl rfl ⟨(SH.o hS ⟨by decide, by decide, by decide⟩), ?_⟩
    refine y_op (ck_at dt_Re_readBracket 45 rfl) rfl (o_const _) ?_
    refine y_op (ck_at dt_Re_readBracket 46 rfl) rfl o_iadd ?_
    refine y_virtV (k' := n_Re_breakAt) (n := 0) (as := [iv ((B 100 2) + 2)]) (r := []) (ck_at dt_Re_readBracket 47 rfl) own_Re_readBracket (cm_at 42 rfl) vk_Re_breakAt rfl nl_Re_breakAt rfl rfl rfl rfl (SH.o hS ⟨by decide, by decide, by decide⟩) (Y_Re_breakAt (by omega) hS p2 ⟨rfl, rfl⟩) ?_
    have hS3 : SH (brC B ((B 100 2) + 2)) := S_Re_breakAt hS
    exact y_wk (c_Re_readBracket_93_ok (by omega) hS3 w) ⟨rfl, ⟨rfl, ⟨rfl, ⟨rfl, trivial⟩⟩⟩⟩
def c_Re_readBracket_67 (h1 : qH) (d : Nat) (x1 : Int) (x2 : Int) (x3 : Int) (B : qB) (Q : qO → qB → Prop) : Prop := R32 (B 100 3) ∧ c_Re_readBracket_93 h1 d x1 x2 x3 (brC B (B 100 2)) Q
theorem c_Re_readBracket_67_ok {h1 : qH} {d : Nat} {x1 : Int} {x2 : Int} {x3 : Int} {B : qB} {Q : qO → qB → Prop} (hd : 3 ≤ d) (hS : SH B) (w : c_Re_readBracket_67 h1 d x1 x2 x3 B Q) : qY h1 (d + 1) n_Re_readBracket 67 [some (.ref 100), some (iv x1), some (iv x2), some (iv x3), none, none, none] [] B Q := by
  unfold c_Re_readBracket_67 at w
  obtain ⟨p1, w⟩ := w
  refine y_ldk (ok := q_isA) (n := 0) (ck_at dt_Re_readBracket 34 rfl) rfl rfl (fun _ => rfl) rfl rfl ?_
  refine y_ldk (ok := q_isA) (n := 0) (ck_at dt_Re_readBracket 35 rfl) rfl rfl (fun _ => rfl) rfl rfl ?_
  refine y_getI (K := 6) (j := 2) (a := 100) (ck_at dt_Re_readBracket 36 rfl) own_Re_readBracket (cf_at 25 rfl) rfl rfl rfl ⟨(SH.o hS ⟨by decide, by decide, by decide⟩), ?_⟩
  refine y_virtV (k' := n_Re_breakAt) (n := 0) (as := [iv (B 100 2)]) (r := []) (ck_at dt_Re_readBracket 37 rfl) own_Re_readBracket (cm_at 42 rfl) vk_Re_breakAt rfl nl_Re_breakAt rfl rfl rfl rfl (SH.o hS ⟨by decide, by decide, by decide⟩) (Y_Re_breakAt (by omega) hS p1 ⟨rfl, rfl⟩) ?_
  have hS2 : SH (brC B (B 100 2)) := S_Re_breakAt hS
  refine y_goto (t := 93) (ck_at dt_Re_readBracket 38 rfl) rfl ?_
  exact y_wk (c_Re_readBracket_93_ok (by omega) hS2 w) ⟨rfl, ⟨rfl, ⟨rfl, ⟨rfl, trivial⟩⟩⟩⟩
def c_Re_readBracket_43 (h1 : qH) (d : Nat) (x1 : Int) (x2 : Int) (x3 : Int) (s0 : Int) (B : qB) (Q : qO → qB → Prop) : Prop := R32 x1 ∧ (x1 ≥ 10 → c_Re_readBracket_67 h1 d x1 x2 x3 B Q) ∧ (x1 < 10 → R32 s0 ∧ (¬ s0 = 0 → c_Re_readBracket_67 h1 d x1 x2 x3 B Q) ∧ (s0 = 0 → R32 x3 ∧ (x3 = 0 → c_Re_readBracket_78 h1 d x1 x2 x3 B Q) ∧ (¬ x3 = 0 → R32 (B 100 6) ∧ (B 100 6 ≤ 0 → c_Re_readBracket_78 h1 d x1 x2 x3 B Q) ∧ (B 100 6 > 0 → c_Re_readBracket_67 h1 d x1 x2 x3 B Q))))
theorem c_Re_readBracket_43_ok {h1 : qH} {d : Nat} {x1 : Int} {x2 : Int} {x3 : Int} {s0 : Int} {B : qB} {Q : qO → qB → Prop} (hd : 3 ≤ d) (hS : SH B) (w : c_Re_readBracket_43 h1 d x1 x2 x3 s0 B Q) : qY h1 (d + 1) n_Re_readBracket 43 [some (.ref 100), some (iv x1), some (iv x2), some (iv x3), none, none, none] [iv s0] B Q := by
  unfold c_Re_readBracket_43 at w
  obtain ⟨p1, w⟩ := w
  refine y_st1 (ok := q_isI) (n := 4) (L' := [some (.ref 100), some (iv x1), some (iv x2), some (iv x3), some (iv s0), none, none]) (ck_at dt_Re_readBracket 23 rfl) rfl (fun _ => rfl) (fun _ _ => rfl) rfl nl_Re_readBracket (by decide) rfl rfl ?_
  refine y_ldk (ok := q_isI) (n := 1) (ck_at dt_Re_readBracket 24 rfl) rfl rfl (fun _ => rfl) rfl rfl ?_
  refine y_op (ck_at dt_Re_readBracket 25 rfl) rfl (o_bipush _ (by decide)) ?_
  refine y_icmp (t := 67) (ck_at dt_Re_readBracket 26 rfl) rfl p1 ⟨by decide, by decide⟩ ?_ ?_
  · intro q; have w := w.1 q
    exact y_wk (c_Re_readBracket_67_ok (by omega) hS w) ⟨rfl, ⟨rfl, ⟨rfl, ⟨rfl, trivial⟩⟩⟩⟩
  · intro q; have w := w.2 q
    obtain ⟨p2, w⟩ := w
    refine y_ldk (ok := q_isI) (n := 4) (ck_at dt_Re_readBracket 27 rfl) rfl rfl (fun _ => rfl) rfl rfl ?_
    refine y_ifz (t := 67) (ck_at dt_Re_readBracket 28 rfl) rfl p2 ?_ ?_
    · intro q; have w := w.1 q
      exact y_wk (c_Re_readBracket_67_ok (by omega) hS w) ⟨rfl, ⟨rfl, ⟨rfl, ⟨rfl, trivial⟩⟩⟩⟩
    · intro q; have w := w.2 q
      obtain ⟨p3, w⟩ := w
      refine y_ldk (ok := q_isI) (n := 3) (ck_at dt_Re_readBracket 29 rfl) rfl rfl (fun _ => rfl) rfl rfl ?_
      refine y_ifz (t := 78) (ck_at dt_Re_readBracket 30 rfl) rfl p3 ?_ ?_
      · intro q; have w := w.1 q
        exact y_wk (c_Re_readBracket_78_ok (by omega) hS w) ⟨rfl, ⟨rfl, ⟨rfl, ⟨rfl, trivial⟩⟩⟩⟩
      · intro q; have w := w.2 q
        obtain ⟨p4, w⟩ := w
        refine y_ldk (ok := q_isA) (n := 0) (ck_at dt_Re_readBracket 31 rfl) rfl rfl (fun _ => rfl) rfl rfl ?_
        refine y_getI (K := 6) (j := 6) (a := 100) (ck_at dt_Re_readBracket 32 rfl) own_Re_readBracket (cf_at 27 rfl) rfl rfl rfl ⟨(SH.o hS ⟨by decide, by decide, by decide⟩), ?_⟩
        refine y_ifz (t := 78) (ck_at dt_Re_readBracket 33 rfl) rfl p4 ?_ ?_
        · intro q; have w := w.1 q
          exact y_wk (c_Re_readBracket_78_ok (by omega) hS w) ⟨rfl, ⟨rfl, ⟨rfl, ⟨rfl, trivial⟩⟩⟩⟩
        · intro q; have w := w.2 q
          exact y_wk (c_Re_readBracket_67_ok (by omega) hS w) ⟨rfl, ⟨rfl, ⟨rfl, ⟨rfl, trivial⟩⟩⟩⟩
def c_Re_readBracket_42 (h1 : qH) (d : Nat) (x1 : Int) (x2 : Int) (x3 : Int) (B : qB) (Q : qO → qB → Prop) : Prop := c_Re_readBracket_43 h1 d x1 x2 x3 0 B Q
theorem c_Re_readBracket_42_ok {h1 : qH} {d : Nat} {x1 : Int} {x2 : Int} {x3 : Int} {B : qB} {Q : qO → qB → Prop} (hd : 3 ≤ d) (hS : SH B) (w : c_Re_readBracket_42 h1 d x1 x2 x3 B Q) : qY h1 (d + 1) n_Re_readBracket 42 [some (.ref 100), some (iv x1), some (iv x2), some (iv x3), none, none, none] [] B Q := by
  unfold c_Re_readBracket_42 at w
  refine y_op (ck_at dt_Re_readBracket 22 rfl) rfl (o_const _) ?_
  exact y_wk (c_Re_readBracket_43_ok (by omega) hS w) ⟨rfl, ⟨rfl, ⟨rfl, ⟨rfl, trivial⟩⟩⟩⟩
def c_Re_readBracket_22 (h1 : qH) (d : Nat) (x1 : Int) (x2 : Int) (s0 : Int) (B : qB) (Q : qO → qB → Prop) : Prop := R32 x2 ∧ (¬ x2 = 9 → c_Re_readBracket_42 h1 d x1 x2 s0 B Q) ∧ (x2 = 9 → R32 (B 100 5) ∧ (B 100 5 < 9 → c_Re_readBracket_42 h1 d x1 x2 s0 B Q) ∧ (B 100 5 ≥ 9 → c_Re_readBracket_43 h1 d x1 x2 s0 1 B Q))
theorem c_Re_readBracket_22_ok {h1 : qH} {d : Nat} {x1 : Int} {x2 : Int} {s0 : Int} {B : qB} {Q : qO → qB → Prop} (hd : 3 ≤ d) (hS : SH B) (w : c_Re_readBracket_22 h1 d x1 x2 s0 B Q) : qY h1 (d + 1) n_Re_readBracket 22 [some (.ref 100), some (iv x1), some (iv x2), none, none, none, none] [iv s0] B Q := by
  unfold c_Re_readBracket_22 at w
  obtain ⟨p1, w⟩ := w
  refine y_st1 (ok := q_isI) (n := 3) (L' := [some (.ref 100), some (iv x1), some (iv x2), some (iv s0), none, none, none]) (ck_at dt_Re_readBracket 12 rfl) rfl (fun _ => rfl) (fun _ _ => rfl) rfl nl_Re_readBracket (by decide) rfl rfl ?_
  refine y_ldk (ok := q_isI) (n := 2) (ck_at dt_Re_readBracket 13 rfl) rfl rfl (fun _ => rfl) rfl rfl ?_
  refine y_op (ck_at dt_Re_readBracket 14 rfl) rfl (o_bipush _ (by decide)) ?_
  refine y_icmp (t := 42) (ck_at dt_Re_readBracket 15 rfl) rfl p1 ⟨by decide, by decide⟩ ?_ ?_
  · intro q; have w := w.1 q
    exact y_wk (c_Re_readBracket_42_ok (by omega) hS w) ⟨rfl, ⟨rfl, ⟨rfl, ⟨rfl, trivial⟩⟩⟩⟩
  · intro q; have w := w.2 q
    obtain ⟨p2, w⟩ := w
    refine y_ldk (ok := q_isA) (n := 0) (ck_at dt_Re_readBracket 16 rfl) rfl rfl (fun _ => rfl) rfl rfl ?_
    refine y_getI (K := 6) (j := 5) (a := 100) (ck_at dt_Re_readBracket 17 rfl) own_Re_readBracket (cf_at 26 rfl) rfl rfl rfl ⟨(SH.o hS ⟨by decide, by decide, by decide⟩), ?_⟩
    refine y_op (ck_at dt_Re_readBracket 18 rfl) rfl (o_bipush _ (by decide)) ?_
    refine y_icmp (t := 42) (ck_at dt_Re_readBracket 19 rfl) rfl p2 ⟨by decide, by decide⟩ ?_ ?_
    · intro q; have w := w.1 q
      exact y_wk (c_Re_readBracket_42_ok (by omega) hS w) ⟨rfl, ⟨rfl, ⟨rfl, ⟨rfl, trivial⟩⟩⟩⟩
    · intro q; have w := w.2 q
      refine y_op (ck_at dt_Re_readBracket 20 rfl) rfl (o_const _) ?_
      refine y_goto (t := 43) (ck_at dt_Re_readBracket 21 rfl) rfl ?_
      exact y_wk (c_Re_readBracket_43_ok (by omega) hS w) ⟨rfl, ⟨rfl, ⟨rfl, ⟨rfl, trivial⟩⟩⟩⟩
def c_Re_readBracket_17 (h1 : qH) (d : Nat) (x1 : Int) (x2 : Int) (B : qB) (Q : qO → qB → Prop) : Prop := c_Re_readBracket_22 h1 d x1 x2 1 B Q
theorem c_Re_readBracket_17_ok {h1 : qH} {d : Nat} {x1 : Int} {x2 : Int} {B : qB} {Q : qO → qB → Prop} (hd : 3 ≤ d) (hS : SH B) (w : c_Re_readBracket_17 h1 d x1 x2 B Q) : qY h1 (d + 1) n_Re_readBracket 17 [some (.ref 100), some (iv x1), some (iv x2), none, none, none, none] [] B Q := by
  unfold c_Re_readBracket_17 at w
  refine y_op (ck_at dt_Re_readBracket 9 rfl) rfl (o_const _) ?_
  refine y_goto (t := 22) (ck_at dt_Re_readBracket 10 rfl) rfl ?_
  exact y_wk (c_Re_readBracket_22_ok (by omega) hS w) ⟨rfl, ⟨rfl, ⟨rfl, trivial⟩⟩⟩
def c_Re_readBracket_0 (h1 : qH) (d : Nat) (x1 : Int) (B : qB) (Q : qO → qB → Prop) : Prop := RI B ∧ R32 (bkV B) ∧ (bkV B = 7 → c_Re_readBracket_17 h1 d x1 (bkV B) B Q) ∧ (¬ bkV B = 7 → (¬ bkV B = 8 → c_Re_readBracket_22 h1 d x1 (bkV B) 0 B Q) ∧ (bkV B = 8 → c_Re_readBracket_17 h1 d x1 (bkV B) B Q))
theorem c_Re_readBracket_0_ok {h1 : qH} {d : Nat} {x1 : Int} {B : qB} {Q : qO → qB → Prop} (hd : 3 ≤ d) (hS : SH B) (w : c_Re_readBracket_0 h1 d x1 B Q) : qY h1 (d + 1) n_Re_readBracket 0 [some (.ref 100), some (iv x1), none, none, none, none, none] [] B Q := by
  unfold c_Re_readBracket_0 at w
  obtain ⟨p1, p2, w⟩ := w
  refine y_ldk (ok := q_isA) (n := 0) (ck_at dt_Re_readBracket 0 rfl) rfl rfl (fun _ => rfl) rfl rfl ?_
  refine y_virtP (k' := n_Re_bracketKind) (n := 0) (as := []) (r := []) (ck_at dt_Re_readBracket 1 rfl) own_Re_readBracket (cm_at 70 rfl) vk_Re_bracketKind rfl nl_Re_bracketKind rfl rfl rfl rfl (SH.o hS ⟨by decide, by decide, by decide⟩) (Y_Re_bracketKind (by omega) hS p1 ⟨rfl, rfl⟩) ?_
  refine y_st1 (ok := q_isI) (n := 2) (L' := [some (.ref 100), some (iv x1), some (iv (bkV B)), none, none, none, none]) (ck_at dt_Re_readBracket 2 rfl) rfl (fun _ => rfl) (fun _ _ => rfl) rfl nl_Re_readBracket (by decide) rfl rfl ?_
  refine y_ldk (ok := q_isI) (n := 2) (ck_at dt_Re_readBracket 3 rfl) rfl rfl (fun _ => rfl) rfl rfl ?_
  refine y_op (ck_at dt_Re_readBracket 4 rfl) rfl (o_bipush _ (by decide)) ?_
  refine y_icmp (t := 17) (ck_at dt_Re_readBracket 5 rfl) rfl p2 ⟨by decide, by decide⟩ ?_ ?_
  · intro q; have w := w.1 q
    exact y_wk (c_Re_readBracket_17_ok (by omega) hS w) ⟨rfl, ⟨rfl, ⟨rfl, trivial⟩⟩⟩
  · intro q; have w := w.2 q
    refine y_ldk (ok := q_isI) (n := 2) (ck_at dt_Re_readBracket 6 rfl) rfl rfl (fun _ => rfl) rfl rfl ?_
    refine y_op (ck_at dt_Re_readBracket 7 rfl) rfl (o_bipush _ (by decide)) ?_
    refine y_icmp (t := 21) (ck_at dt_Re_readBracket 8 rfl) rfl p2 ⟨by decide, by decide⟩ ?_ ?_
    · intro q; have w := w.1 q
      refine y_op (ck_at dt_Re_readBracket 11 rfl) rfl (o_const _) ?_
      exact y_wk (c_Re_readBracket_22_ok (by omega) hS w) ⟨rfl, ⟨rfl, ⟨rfl, trivial⟩⟩⟩
    · intro q; have w := w.2 q
      exact y_wk (c_Re_readBracket_17_ok (by omega) hS w) ⟨rfl, ⟨rfl, ⟨rfl, trivial⟩⟩⟩
/-! PatternTrier$Reader.readPart(I)I -/
def t_Re_readPart : List (Nat × Instr × Nat) := [(0, .aload_n 0, 1), (1, .getfield 37, 3), (4, .istore_n 2, 1), (5, .aload_n 0, 1), (6, .iload_n 1, 1), (7, .invokevirtual 87, 3), (10, .istore_n 3, 1), (11, .aload_n 0, 1), (12, .invokevirtual 68, 3), (15, .ifCond .ne 14, 3), (18, .aload_n 0, 1), (19, .iconst 0, 1), (20, .invokevirtual 47, 3), (23, .invokestatic 90, 3), (26, .ifCond .ne 5, 3), (29, .iload_n 3, 1), (30, .ireturn, 1), (31, .aload_n 0, 1), (32, .getfield 9, 3), (35, .iload_n 3, 1), (36, .invokevirtual 93, 3), (39, .istore 4, 2), (41, .iload 4, 2), (43, .iconst 3, 1), (44, .if_icmp .lt 20, 3), (47, .iload 4, 2), (49, .bipush 8, 2), (51, .if_icmp .gt 13, 3), (54, .aload_n 0, 1), (55, .aload_n 0, 1), (56, .getfield 28, 3), (59, .invokevirtual 50, 3), (62, .iload_n 3, 1), (63, .ireturn, 1), (64, .aload_n 0, 1), (65, .iload_n 3, 1), (66, .aload_n 0, 1), (67, .getfield 37, 3), (70, .iload_n 2, 1), (71, .if_icmp .ne 10, 3), (74, .aload_n 0, 1), (75, .getfield 34, 3), (78, .ifCond .le 7, 3), (81, .iconst 1, 1), (82, .goto 4, 3), (85, .iconst 0, 1), (86, .invokevirtual 96, 3), (89, .ireturn, 1)]
set_option maxRecDepth 100000 in
theorem dt_Re_readPart : q_ck n_Re_readPart t_Re_readPart = true := by decide +kernel
def c_Re_readPart_89 (h1 : qH) (d : Nat) (s0 : Int) (B : qB) (Q : qO → qB → Prop) : Prop := Q (.inl (some (iv s0))) B
theorem c_Re_readPart_89_ok {h1 : qH} {d : Nat} {s0 : Int} {B : qB} {Q : qO → qB → Prop} (hd : 2 ≤ d) (hS : SH B) (w : c_Re_readPart_89 h1 d s0 B Q) : qY h1 (d + 1) n_Re_readPart 89 [none, none, none, none, none] [iv s0] B Q := by
  unfold c_Re_readPart_89 at w
  exact y_retI (ck_at dt_Re_readPart 47 rfl) rt_Re_readPart w
def c_Re_readPart_86 (h1 : qH) (d : Nat) (s1 : Int) (s2 : Int) (B : qB) (Q : qO → qB → Prop) : Prop := qY h1 d n_Re_readRounds 0 [some (.ref 100), some (iv s1), some (iv s2), none, none, none, none] [] B (fun o B' => ∃ v : Int, o = .inl (some (iv v)) ∧ SH B' ∧ c_Re_readPart_89 h1 d v B' Q)
theorem c_Re_readPart_86_ok {h1 : qH} {d : Nat} {s1 : Int} {s2 : Int} {B : qB} {Q : qO → qB → Prop} (hd : 2 ≤ d) (hS : SH B) (w : c_Re_readPart_86 h1 d s1 s2 B Q) : qY h1 (d + 1) n_Re_readPart 86 [none, none, none, none, none] [iv s2, iv s1, .ref 100] B Q := by
  unfold c_Re_readPart_86 at w
  refine y_virt (k' := n_Re_readRounds) (n := 4) (as := [iv s1, iv s2]) (r := []) (ck_at dt_Re_readPart 46 rfl) own_Re_readPart (cm_at 55 rfl) vk_Re_readRounds rfl nl_Re_readRounds rfl rfl rfl rfl ⟨(SH.o hS ⟨by decide, by decide, by decide⟩), ?_⟩
  exact w.mono (Nat.le_refl _) (fun o B' ⟨v, ho, hS', w⟩ => Or.inl ⟨some (iv v), ho, y_wk (c_Re_readPart_89_ok (by omega) hS' w) trivial⟩)
def c_Re_readPart_81 (h1 : qH) (d : Nat) (s1 : Int) (B : qB) (Q : qO → qB → Prop) : Prop := c_Re_readPart_86 h1 d s1 1 B Q
theorem c_Re_readPart_81_ok {h1 : qH} {d : Nat} {s1 : Int} {B : qB} {Q : qO → qB → Prop} (hd : 2 ≤ d) (hS : SH B) (w : c_Re_readPart_81 h1 d s1 B Q) : qY h1 (d + 1) n_Re_readPart 81 [none, none, none, none, none] [iv s1, .ref 100] B Q := by
  unfold c_Re_readPart_81 at w
  refine y_op (ck_at dt_Re_readPart 43 rfl) rfl (o_const _) ?_
  refine y_goto (t := 86) (ck_at dt_Re_readPart 44 rfl) rfl ?_
  exact y_wk (c_Re_readPart_86_ok (by omega) hS w) trivial
def c_Re_readPart_64 (h1 : qH) (d : Nat) (x2 : Int) (x3 : Int) (B : qB) (Q : qO → qB → Prop) : Prop := R32 (B 100 7) ∧ R32 x2 ∧ (¬ B 100 7 = x2 → c_Re_readPart_81 h1 d x3 B Q) ∧ (B 100 7 = x2 → R32 (B 100 6) ∧ (B 100 6 ≤ 0 → c_Re_readPart_86 h1 d x3 0 B Q) ∧ (B 100 6 > 0 → c_Re_readPart_81 h1 d x3 B Q))
theorem c_Re_readPart_64_ok {h1 : qH} {d : Nat} {x2 : Int} {x3 : Int} {B : qB} {Q : qO → qB → Prop} (hd : 2 ≤ d) (hS : SH B) (w : c_Re_readPart_64 h1 d x2 x3 B Q) : qY h1 (d + 1) n_Re_readPart 64 [some (.ref 100), none, some (iv x2), some (iv x3), none] [] B Q := by
  unfold c_Re_readPart_64 at w
  obtain ⟨p1, p2, w⟩ := w
  refine y_ldk (ok := q_isA) (n := 0) (ck_at dt_Re_readPart 34 rfl) rfl rfl (fun _ => rfl) rfl rfl ?_
  refine y_ldk (ok := q_isI) (n := 3) (ck_at dt_Re_readPart 35 rfl) rfl rfl (fun _ => rfl) rfl rfl ?_
  refine y_ldk (ok := q_isA) (n := 0) (ck_at dt_Re_readPart 36 rfl) rfl rfl (fun _ => rfl) rfl rfl ?_
  refine y_getI (K := 6) (j := 7) (a := 100) (ck_at dt_Re_readPart 37 rfl) own_Re_readPart (cf_at 28 rfl) rfl rfl rfl ⟨(SH.o hS ⟨by decide, by decide, by decide⟩), ?_⟩
  refine y_ldk (ok := q_isI) (n := 2) (ck_at dt_Re_readPart 38 rfl) rfl rfl (fun _ => rfl) rfl rfl ?_
  refine y_icmp (t := 81) (ck_at dt_Re_readPart 39 rfl) rfl p1 p2 ?_ ?_
  · intro q; have w := w.1 q
    exact y_wk (c_Re_readPart_81_ok (by omega) hS w) trivial
  · intro q; have w := w.2 q
    obtain ⟨p3, w⟩ := w
    refine y_ldk (ok := q_isA) (n := 0) (ck_at dt_Re_readPart 40 rfl) rfl rfl (fun _ => rfl) rfl rfl ?_
    refine y_getI (K := 6) (j := 6) (a := 100) (ck_at dt_Re_readPart 41 rfl) own_Re_readPart (cf_at 27 rfl) rfl rfl rfl ⟨(SH.o hS ⟨by decide, by decide, by decide⟩), ?_⟩
    refine y_ifz (t := 85) (ck_at dt_Re_readPart 42 rfl) rfl p3 ?_ ?_
    · intro q; have w := w.1 q
      refine y_op (ck_at dt_Re_readPart 45 rfl) rfl (o_const _) ?_
      exact y_wk (c_Re_readPart_86_ok (by omega) hS w) trivial
    · intro q; have w := w.2 q
      exact y_wk (c_Re_readPart_81_ok (by omega) hS w) trivial
def c_Re_readPart_10 (h1 : qH) (d : Nat) (x2 : Int) (s0 : Int) (B : qB) (Q : qO → qB → Prop) : Prop := R32 (B 100 3) ∧ (¬ bi (decide (¬ B 100 3 = (-1))) = 0 → Q (.inl (some (iv s0))) B) ∧ (bi (decide (¬ B 100 3 = (-1))) = 0 → RI B ∧ R32 (sgC B (B 100 2 + 0)) ∧ (¬ bi (isQt (sgC B (B 100 2 + 0))) = 0 → 0 ≤ s0 ∧ s0 < 408 ∧ R32 (B 91 s0) ∧ (B 91 s0 < 3 → c_Re_readPart_64 h1 d x2 s0 B Q) ∧ (B 91 s0 ≥ 3 → (B 91 s0 > 8 → c_Re_readPart_64 h1 d x2 s0 B Q) ∧ (B 91 s0 ≤ 8 → Q (.inl (some (iv s0))) (brC B (B 100 2))))) ∧ (bi (isQt (sgC B (B 100 2 + 0))) = 0 → Q (.inl (some (iv s0))) B))
theorem c_Re_readPart_10_ok {h1 : qH} {d : Nat} {x2 : Int} {s0 : Int} {B : qB} {Q : qO → qB → Prop} (hd : 2 ≤ d) (hS : SH B) (w : c_Re_readPart_10 h1 d x2 s0 B Q) : qY h1 (d + 1) n_Re_readPart 10 [some (.ref 100), none, some (iv x2), none, none] [iv s0] B Q := by
  unfold c_Re_readPart_10 at w
  obtain ⟨p1, w⟩ := w
  refine y_st1 (ok := q_isI) (n := 3) (L' := [some (.ref 100), none, some (iv x2), some (iv s0), none]) (ck_at dt_Re_readPart 6 rfl) rfl (fun _ => rfl) (fun _ _ => rfl) rfl nl_Re_readPart (by decide) rfl rfl ?_
  refine y_ldk (ok := q_isA) (n := 0) (ck_at dt_Re_readPart 7 rfl) rfl rfl (fun _ => rfl) rfl rfl ?_
  refine y_virtP (k' := n_Re_isBroken) (n := 0) (as := []) (r := []) (ck_at dt_Re_readPart 8 rfl) own_Re_readPart (cm_at 47 rfl) vk_Re_isBroken rfl nl_Re_isBroken rfl rfl rfl rfl (SH.o hS ⟨by decide, by decide, by decide⟩) (Y_Re_isBroken (by omega) hS p1 ⟨rfl, rfl⟩) ?_
  refine y_ifz (t := 29) (ck_at dt_Re_readPart 9 rfl) rfl (R32_bi _) ?_ ?_
  · intro q; have w := w.1 q
    refine y_ldk (ok := q_isI) (n := 3) (ck_at dt_Re_readPart 15 rfl) rfl rfl (fun _ => rfl) rfl rfl ?_
    exact y_retI (ck_at dt_Re_readPart 16 rfl) rt_Re_readPart w
  · intro q; have w := w.2 q
    obtain ⟨p2, p3, w⟩ := w
    refine y_ldk (ok := q_isA) (n := 0) (ck_at dt_Re_readPart 10 rfl) rfl rfl (fun _ => rfl) rfl rfl ?_
    refine y_op (ck_at dt_Re_readPart 11 rfl) rfl (o_const _) ?_
    refine y_virtP (k' := n_Re_see) (n := 2) (as := [iv 0]) (r := []) (ck_at dt_Re_readPart 12 rfl) own_Re_readPart (cm_at 41 rfl) vk_Re_see rfl nl_Re_see rfl rfl rfl rfl (SH.o hS ⟨by decide, by decide, by decide⟩) (Y_Re_see (by omega) hS p2 (by decide) (by decide) ⟨rfl, rfl⟩) ?_
    refine y_statP (k' := n_Re_isQuantifier) (n := 0) (as := [iv (sgC B (B 100 2 + 0))]) (r := []) (ck_at dt_Re_readPart 13 rfl) own_Re_readPart (cm_at 53 rfl) (cs_at 12 rfl) vk_Re_isQuantifier rfl nl_Re_isQuantifier rfl rfl rfl rfl  (Y_Re_isQuantifier (by omega) hS p3 ⟨rfl, rfl⟩) ?_
    refine y_ifz (t := 31) (ck_at dt_Re_readPart 14 rfl) rfl (R32_bi _) ?_ ?_
    · intro q; have w := w.1 q
      obtain ⟨p4, p5, p6, w⟩ := w
      refine y_ldk (ok := q_isA) (n := 0) (ck_at dt_Re_readPart 17 rfl) rfl rfl (fun _ => rfl) rfl rfl ?_
      refine y_getF (r := 90) (K := 6) (j := 0) (a := 100) (ck_at dt_Re_readPart 18 rfl) own_Re_readPart (cf_at 22 rfl) rfl rfl ⟨(SH.o hS ⟨by decide, by decide, by decide⟩), ?_⟩
      refine y_ldk (ok := q_isI) (n := 3) (ck_at dt_Re_readPart 19 rfl) rfl rfl (fun _ => rfl) rfl rfl ?_
      refine y_virtP (k' := n_Tr_kindOf) (n := 0) (as := [iv s0]) (r := []) (ck_at dt_Re_readPart 20 rfl) own_Re_readPart (cm_at 54 rfl) vk_Tr_kindOf rfl nl_Tr_kindOf rfl rfl rfl rfl (SH.o hS ⟨by decide, by decide, by decide⟩) (Y_Tr_kindOf (by omega) hS p4 p5 ⟨rfl, rfl⟩) ?_
      refine y_st1 (ok := q_isI) (n := 4) (L' := [some (.ref 100), none, some (iv x2), some (iv s0), some (iv (B 91 s0))]) (ck_at dt_Re_readPart 21 rfl) rfl (fun _ => rfl) (fun _ _ => rfl) rfl nl_Re_readPart (by decide) rfl rfl ?_
      refine y_ldk (ok := q_isI) (n := 4) (ck_at dt_Re_readPart 22 rfl) rfl rfl (fun _ => rfl) rfl rfl ?_
      refine y_op (ck_at dt_Re_readPart 23 rfl) rfl (o_const _) ?_
      refine y_icmp (t := 64) (ck_at dt_Re_readPart 24 rfl) rfl p6 ⟨by decide, by decide⟩ ?_ ?_
      · intro q; have w := w.1 q
        exact y_wk (c_Re_readPart_64_ok (by omega) hS w) ⟨rfl, ⟨rfl, ⟨rfl, trivial⟩⟩⟩
      · intro q; have w := w.2 q
        refine y_ldk (ok := q_isI) (n := 4) (ck_at dt_Re_readPart 25 rfl) rfl rfl (fun _ => rfl) rfl rfl ?_
        refine y_op (ck_at dt_Re_readPart 26 rfl) rfl (o_bipush _ (by decide)) ?_
        refine y_icmp (t := 64) (ck_at dt_Re_readPart 27 rfl) rfl p6 ⟨by decide, by decide⟩ ?_ ?_
        · intro q; have w := w.1 q
          exact y_wk (c_Re_readPart_64_ok (by omega) hS w) ⟨rfl, ⟨rfl, ⟨rfl, trivial⟩⟩⟩
        · intro q; have w := w.2 q
          refine y_ldk (ok := q_isA) (n := 0) (ck_at dt_Re_readPart 28 rfl) rfl rfl (fun _ => rfl) rfl rfl ?_
          refine y_ldk (ok := q_isA) (n := 0) (ck_at dt_Re_readPart 29 rfl) rfl rfl (fun _ => rfl) rfl rfl ?_
          refine y_getI (K := 6) (j := 2) (a := 100) (ck_at dt_Re_readPart 30 rfl) own_Re_readPart (cf_at 25 rfl) rfl rfl rfl ⟨(SH.o hS ⟨by decide, by decide, by decide⟩), ?_⟩
          refine y_virtV (k' := n_Re_breakAt) (n := 0) (as := [iv (B 100 2)]) (r := []) (ck_at dt_Re_readPart 31 rfl) own_Re_readPart (cm_at 42 rfl) vk_Re_breakAt rfl nl_Re_breakAt rfl rfl rfl rfl (SH.o hS ⟨by decide, by decide, by decide⟩) (Y_Re_breakAt (by omega) hS p1 ⟨rfl, rfl⟩) ?_
          have hS7 : SH (brC B (B 100 2)) := S_Re_breakAt hS
          refine y_ldk (ok := q_isI) (n := 3) (ck_at dt_Re_readPart 32 rfl) rfl rfl (fun _ => rfl) rfl rfl ?_
          exact y_retI (ck_at dt_Re_readPart 33 rfl) rt_Re_readPart w
    · intro q; have w := w.2 q
      refine y_ldk (ok := q_isI) (n := 3) (ck_at dt_Re_readPart 15 rfl) rfl rfl (fun _ => rfl) rfl rfl ?_
      exact y_retI (ck_at dt_Re_readPart 16 rfl) rt_Re_readPart w
def c_Re_readPart_0 (h1 : qH) (d : Nat) (x1 : Int) (B : qB) (Q : qO → qB → Prop) : Prop := qY h1 d n_Re_readAtom 0 [some (.ref 100), some (iv x1), none] [] B (fun o B' => ∃ v : Int, o = .inl (some (iv v)) ∧ SH B' ∧ c_Re_readPart_10 h1 d (B 100 7) v B' Q)
theorem c_Re_readPart_0_ok {h1 : qH} {d : Nat} {x1 : Int} {B : qB} {Q : qO → qB → Prop} (hd : 2 ≤ d) (hS : SH B) (w : c_Re_readPart_0 h1 d x1 B Q) : qY h1 (d + 1) n_Re_readPart 0 [some (.ref 100), some (iv x1), none, none, none] [] B Q := by
  unfold c_Re_readPart_0 at w
  refine y_ldk (ok := q_isA) (n := 0) (ck_at dt_Re_readPart 0 rfl) rfl rfl (fun _ => rfl) rfl rfl ?_
  refine y_getI (K := 6) (j := 7) (a := 100) (ck_at dt_Re_readPart 1 rfl) own_Re_readPart (cf_at 28 rfl) rfl rfl rfl ⟨(SH.o hS ⟨by decide, by decide, by decide⟩), ?_⟩
  refine y_st1 (ok := q_isI) (n := 2) (L' := [some (.ref 100), some (iv x1), some (iv (B 100 7)), none, none]) (ck_at dt_Re_readPart 2 rfl) rfl (fun _ => rfl) (fun _ _ => rfl) rfl nl_Re_readPart (by decide) rfl rfl ?_
  refine y_ldk (ok := q_isA) (n := 0) (ck_at dt_Re_readPart 3 rfl) rfl rfl (fun _ => rfl) rfl rfl ?_
  refine y_ldk (ok := q_isI) (n := 1) (ck_at dt_Re_readPart 4 rfl) rfl rfl (fun _ => rfl) rfl rfl ?_
  refine y_virt (k' := n_Re_readAtom) (n := 1) (as := [iv x1]) (r := []) (ck_at dt_Re_readPart 5 rfl) own_Re_readPart (cm_at 52 rfl) vk_Re_readAtom rfl nl_Re_readAtom rfl rfl rfl rfl ⟨(SH.o hS ⟨by decide, by decide, by decide⟩), ?_⟩
  exact w.mono (Nat.le_refl _) (fun o B' ⟨v, ho, hS', w⟩ => Or.inl ⟨some (iv v), ho, y_wk (c_Re_readPart_10_ok (by omega) hS' w) ⟨rfl, ⟨rfl, trivial⟩⟩⟩)
/-! PatternTrier$Reader.readRow(I)I -/
def t_Re_readRow : List (Nat × Instr × Nat) := [(0, .iconst 0, 1), (1, .istore_n 2, 1), (2, .iconst 0, 1), (3, .istore_n 3, 1), (4, .iconst 0, 1), (5, .istore 4, 2), (7, .iload 4, 2), (9, .sipush 201, 3), (12, .if_icmp .ge 59, 3), (15, .aload_n 0, 1), (16, .invokevirtual 68, 3), (19, .ifCond .ne 52, 3), (22, .aload_n 0, 1), (23, .iconst 0, 1), (24, .invokevirtual 47, 3), (27, .invokestatic 80, 3), (30, .ifCond .ne 41, 3), (33, .aload_n 0, 1), (34, .iload_n 1, 1), (35, .invokevirtual 84, 3), (38, .istore 5, 2), (40, .aload_n 0, 1), (41, .getfield 9, 3), (44, .iload 5, 2), (46, .iload_n 2, 1), (47, .invokevirtual 72, 3), (50, .iload_n 3, 1), (51, .aload_n 0, 1), (52, .getfield 9, 3), (55, .iload 5, 2), (57, .invokevirtual 65, 3), (60, .iadd, 1), (61, .istore_n 3, 1), (62, .iload 5, 2), (64, .istore_n 2, 1), (65, .iinc 4 1, 3), (68, .goto (-61), 3), (71, .aload_n 0, 1), (72, .getfield 9, 3), (75, .bipush 12, 2), (77, .iconst 0, 1), (78, .iload_n 2, 1), (79, .iload_n 3, 1), (80, .invokevirtual 76, 3), (83, .ireturn, 1)]
set_option maxRecDepth 100000 in
theorem dt_Re_readRow : q_ck n_Re_readRow t_Re_readRow = true := by decide +kernel
def c_Re_readRow_71 (h1 : qH) (d : Nat) (x2 : Int) (x3 : Int) (B : qB) (Q : qO → qB → Prop) : Prop := 1 ≤ B 90 8 ∧ B 90 8 ≤ 408 ∧ R32 x3 ∧ Q (.inl (some (iv (adV B)))) (adT B 12 0 x2 x3)
theorem c_Re_readRow_71_ok {h1 : qH} {d : Nat} {x2 : Int} {x3 : Int} {B : qB} {Q : qO → qB → Prop} (hd : 2 ≤ d) (hS : SH B) (w : c_Re_readRow_71 h1 d x2 x3 B Q) : qY h1 (d + 1) n_Re_readRow 71 [some (.ref 100), none, some (iv x2), some (iv x3), none, none] [] B Q := by
  unfold c_Re_readRow_71 at w
  obtain ⟨p1, p2, p3, w⟩ := w
  refine y_ldk (ok := q_isA) (n := 0) (ck_at dt_Re_readRow 37 rfl) rfl rfl (fun _ => rfl) rfl rfl ?_
  refine y_getF (r := 90) (K := 6) (j := 0) (a := 100) (ck_at dt_Re_readRow 38 rfl) own_Re_readRow (cf_at 22 rfl) rfl rfl ⟨(SH.o hS ⟨by decide, by decide, by decide⟩), ?_⟩
  refine y_op (ck_at dt_Re_readRow 39 rfl) rfl (o_bipush _ (by decide)) ?_
  refine y_op (ck_at dt_Re_readRow 40 rfl) rfl (o_const _) ?_
  refine y_ldk (ok := q_isI) (n := 2) (ck_at dt_Re_readRow 41 rfl) rfl rfl (fun _ => rfl) rfl rfl ?_
  refine y_ldk (ok := q_isI) (n := 3) (ck_at dt_Re_readRow 42 rfl) rfl rfl (fun _ => rfl) rfl rfl ?_
  refine y_virtP (k' := n_Tr_add) (n := 1) (as := [iv 12, iv 0, iv x2, iv x3]) (r := []) (ck_at dt_Re_readRow 43 rfl) own_Re_readRow (cm_at 49 rfl) vk_Tr_add rfl nl_Tr_add rfl rfl rfl rfl (SH.o hS ⟨by decide, by decide, by decide⟩) (Y_Tr_add (by omega) hS p1 p2 p3 ⟨rfl, rfl⟩) ?_
  have hS4 : SH (adT B 12 0 x2 x3) := S_Tr_add hS p1 p2 p3
  exact y_retI (ck_at dt_Re_readRow 44 rfl) rt_Re_readRow w
def c_Re_readRow_38 (h1 : qH) (d : Nat) (x1 : Int) (x2 : Int) (x3 : Int) (x4 : Int) (s0 : Int) (B : qB) (Q : qO → qB → Prop) : Prop := 0 ≤ s0 ∧ s0 < 408 ∧ qY h1 (d + 1) n_Re_readRow 7 [some (.ref 100), some (iv x1), some (iv s0), some (iv (x3 + ((u2 B 94 s0 x2) 97 s0))), some (iv (x4 + 1)), none] [] (u2 B 94 s0 x2) Q
theorem c_Re_readRow_38_ok {h1 : qH} {d : Nat} {x1 : Int} {x2 : Int} {x3 : Int} {x4 : Int} {s0 : Int} {B : qB} {Q : qO → qB → Prop} (hd : 2 ≤ d) (hS : SH B) (w : c_Re_readRow_38 h1 d x1 x2 x3 x4 s0 B Q) : qY h1 (d + 1) n_Re_readRow 38 [some (.ref 100), some (iv x1), some (iv x2), some (iv x3), some (iv x4), none] [iv s0] B Q := by
  unfold c_Re_readRow_38 at w
  obtain ⟨p1, p2, w⟩ := w
  refine y_st1 (ok := q_isI) (n := 5) (L' := [some (.ref 100), some (iv x1), some (iv x2), some (iv x3), some (iv x4), some (iv s0)]) (ck_at dt_Re_readRow 20 rfl) rfl (fun _ => rfl) (fun _ _ => rfl) rfl nl_Re_readRow (by decide) rfl rfl ?_
  refine y_ldk (ok := q_isA) (n := 0) (ck_at dt_Re_readRow 21 rfl) rfl rfl (fun _ => rfl) rfl rfl ?_
  refine y_getF (r := 90) (K := 6) (j := 0) (a := 100) (ck_at dt_Re_readRow 22 rfl) own_Re_readRow (cf_at 22 rfl) rfl rfl ⟨(SH.o hS ⟨by decide, by decide, by decide⟩), ?_⟩
  refine y_ldk (ok := q_isI) (n := 5) (ck_at dt_Re_readRow 23 rfl) rfl rfl (fun _ => rfl) rfl rfl ?_
  refine y_ldk (ok := q_isI) (n := 2) (ck_at dt_Re_readRow 24 rfl) rfl rfl (fun _ => rfl) rfl rfl ?_
  refine y_virtV (k' := n_Tr_chain) (n := 0) (as := [iv s0, iv x2]) (r := []) (ck_at dt_Re_readRow 25 rfl) own_Re_readRow (cm_at 48 rfl) vk_Tr_chain rfl nl_Tr_chain rfl rfl rfl rfl (SH.o hS ⟨by decide, by decide, by decide⟩) (Y_Tr_chain (by omega) hS p1 p2 ⟨rfl, rfl⟩) ?_
  have hS3 := SH_u2 (b := 94) (x := s0) (z := x2) hS p1
  refine y_ldk (ok := q_isI) (n := 3) (ck_at dt_Re_readRow 26 rfl) rfl rfl (fun _ => rfl) rfl rfl ?_
  refine y_ldk (ok := q_isA) (n := 0) (ck_at dt_Re_readRow 27 rfl) rfl rfl (fun _ => rfl) rfl rfl ?_
  refine y_getF (r := 90) (K := 6) (j := 0) (a := 100) (ck_at dt_Re_readRow 28 rfl) own_Re_readRow (cf_at 22 rfl) rfl rfl ⟨(SH.o hS3 ⟨by decide, by decide, by decide⟩), ?_⟩
  refine y_ldk (ok := q_isI) (n := 5) (ck_at dt_Re_readRow 29 rfl) rfl rfl (fun _ => rfl) rfl rfl ?_
  refine y_virtP (k' := n_Tr_weightOf) (n := 0) (as := [iv s0]) (r := [iv x3]) (ck_at dt_Re_readRow 30 rfl) own_Re_readRow (cm_at 46 rfl) vk_Tr_weightOf rfl nl_Tr_weightOf rfl rfl rfl rfl (SH.o hS3 ⟨by decide, by decide, by decide⟩) (Y_Tr_weightOf (by omega) hS3 p1 p2 ⟨rfl, rfl⟩) ?_
  refine y_op (ck_at dt_Re_readRow 31 rfl) rfl o_iadd ?_
  refine y_st1 (ok := q_isI) (n := 3) (L' := [some (.ref 100), some (iv x1), some (iv x2), some (iv (x3 + ((u2 B 94 s0 x2) 97 s0))), some (iv x4), some (iv s0)]) (ck_at dt_Re_readRow 32 rfl) rfl (fun _ => rfl) (fun _ _ => rfl) rfl nl_Re_readRow (by decide) rfl rfl ?_
  refine y_ldk (ok := q_isI) (n := 5) (ck_at dt_Re_readRow 33 rfl) rfl rfl (fun _ => rfl) rfl rfl ?_
  refine y_st1 (ok := q_isI) (n := 2) (L' := [some (.ref 100), some (iv x1), some (iv s0), some (iv (x3 + ((u2 B 94 s0 x2) 97 s0))), some (iv x4), some (iv s0)]) (ck_at dt_Re_readRow 34 rfl) rfl (fun _ => rfl) (fun _ _ => rfl) rfl nl_Re_readRow (by decide) rfl rfl ?_
  refine y_iinc (n := 4) (L' := [some (.ref 100), some (iv x1), some (iv s0), some (iv (x3 + ((u2 B 94 s0 x2) 97 s0))), some (iv (x4 + 1)), some (iv s0)]) (ck_at dt_Re_readRow 35 rfl) rfl nl_Re_readRow (by decide) rfl rfl ?_
  refine y_goto (t := 7) (ck_at dt_Re_readRow 36 rfl) rfl ?_
  exact y_wk w ⟨rfl, ⟨rfl, ⟨rfl, ⟨rfl, ⟨rfl, trivial⟩⟩⟩⟩⟩
def c_Re_readRow_7 (h1 : qH) (d : Nat) (x1 : Int) (x2 : Int) (x3 : Int) (x4 : Int) (B : qB) (Q : qO → qB → Prop) : Prop := R32 x4 ∧ (x4 ≥ 201 → c_Re_readRow_71 h1 d x2 x3 B Q) ∧ (x4 < 201 → R32 (B 100 3) ∧ (¬ bi (decide (¬ B 100 3 = (-1))) = 0 → c_Re_readRow_71 h1 d x2 x3 B Q) ∧ (bi (decide (¬ B 100 3 = (-1))) = 0 → RI B ∧ R32 (sgC B (B 100 2 + 0)) ∧ (¬ bi (isRE (sgC B (B 100 2 + 0))) = 0 → c_Re_readRow_71 h1 d x2 x3 B Q) ∧ (bi (isRE (sgC B (B 100 2 + 0))) = 0 → qY h1 d n_Re_readPart 0 [some (.ref 100), some (iv x1), none, none, none] [] B (fun o B' => ∃ v : Int, o = .inl (some (iv v)) ∧ SH B' ∧ c_Re_readRow_38 h1 d x1 x2 x3 x4 v B' Q))))
theorem c_Re_readRow_7_ok {h1 : qH} {d : Nat} {x1 : Int} {x2 : Int} {x3 : Int} {x4 : Int} {B : qB} {Q : qO → qB → Prop} (hd : 2 ≤ d) (hS : SH B) (w : c_Re_readRow_7 h1 d x1 x2 x3 x4 B Q) : qY h1 (d + 1) n_Re_readRow 7 [some (.ref 100), some (iv x1), some (iv x2), some (iv x3), some (iv x4), none] [] B Q := by
  unfold c_Re_readRow_7 at w
  obtain ⟨p1, w⟩ := w
  refine y_ldk (ok := q_isI) (n := 4) (ck_at dt_Re_readRow 6 rfl) rfl rfl (fun _ => rfl) rfl rfl ?_
  refine y_op (ck_at dt_Re_readRow 7 rfl) rfl (o_sipush _ (by decide)) ?_
  refine y_icmp (t := 71) (ck_at dt_Re_readRow 8 rfl) rfl p1 ⟨by decide, by decide⟩ ?_ ?_
  · intro q; have w := w.1 q
    exact y_wk (c_Re_readRow_71_ok (by omega) hS w) ⟨rfl, ⟨rfl, ⟨rfl, trivial⟩⟩⟩
  · intro q; have w := w.2 q
    obtain ⟨p2, w⟩ := w
    refine y_ldk (ok := q_isA) (n := 0) (ck_at dt_Re_readRow 9 rfl) rfl rfl (fun _ => rfl) rfl rfl ?_
    refine y_virtP (k' := n_Re_isBroken) (n := 0) (as := []) (r := []) (ck_at dt_Re_readRow 10 rfl) own_Re_readRow (cm_at 47 rfl) vk_Re_isBroken rfl nl_Re_isBroken rfl rfl rfl rfl (SH.o hS ⟨by decide, by decide, by decide⟩) (Y_Re_isBroken (by omega) hS p2 ⟨rfl, rfl⟩) ?_
    refine y_ifz (t := 71) (ck_at dt_Re_readRow 11 rfl) rfl (R32_bi _) ?_ ?_
    · intro q; have w := w.1 q
      exact y_wk (c_Re_readRow_71_ok (by omega) hS w) ⟨rfl, ⟨rfl, ⟨rfl, trivial⟩⟩⟩
    · intro q; have w := w.2 q
      obtain ⟨p3, p4, w⟩ := w
      refine y_ldk (ok := q_isA) (n := 0) (ck_at dt_Re_readRow 12 rfl) rfl rfl (fun _ => rfl) rfl rfl ?_
      refine y_op (ck_at dt_Re_readRow 13 rfl) rfl (o_const _) ?_
      refine y_virtP (k' := n_Re_see) (n := 2) (as := [iv 0]) (r := []) (ck_at dt_Re_readRow 14 rfl) own_Re_readRow (cm_at 41 rfl) vk_Re_see rfl nl_Re_see rfl rfl rfl rfl (SH.o hS ⟨by decide, by decide, by decide⟩) (Y_Re_see (by omega) hS p3 (by decide) (by decide) ⟨rfl, rfl⟩) ?_
      refine y_statP (k' := n_Re_isRowEnd) (n := 0) (as := [iv (sgC B (B 100 2 + 0))]) (r := []) (ck_at dt_Re_readRow 15 rfl) own_Re_readRow (cm_at 50 rfl) (cs_at 11 rfl) vk_Re_isRowEnd rfl nl_Re_isRowEnd rfl rfl rfl rfl  (Y_Re_isRowEnd (by omega) hS p4 ⟨rfl, rfl⟩) ?_
      refine y_ifz (t := 71) (ck_at dt_Re_readRow 16 rfl) rfl (R32_bi _) ?_ ?_
      · intro q; have w := w.1 q
        exact y_wk (c_Re_readRow_71_ok (by omega) hS w) ⟨rfl, ⟨rfl, ⟨rfl, trivial⟩⟩⟩
      · intro q; have w := w.2 q
        refine y_ldk (ok := q_isA) (n := 0) (ck_at dt_Re_readRow 17 rfl) rfl rfl (fun _ => rfl) rfl rfl ?_
        refine y_ldk (ok := q_isI) (n := 1) (ck_at dt_Re_readRow 18 rfl) rfl rfl (fun _ => rfl) rfl rfl ?_
        refine y_virt (k' := n_Re_readPart) (n := 3) (as := [iv x1]) (r := []) (ck_at dt_Re_readRow 19 rfl) own_Re_readRow (cm_at 51 rfl) vk_Re_readPart rfl nl_Re_readPart rfl rfl rfl rfl ⟨(SH.o hS ⟨by decide, by decide, by decide⟩), ?_⟩
        exact w.mono (Nat.le_refl _) (fun o B' ⟨v, ho, hS', w⟩ => Or.inl ⟨some (iv v), ho, y_wk (c_Re_readRow_38_ok (by omega) hS' w) ⟨rfl, ⟨rfl, ⟨rfl, ⟨rfl, ⟨rfl, trivial⟩⟩⟩⟩⟩⟩)
def c_Re_readRow_0 (h1 : qH) (d : Nat) (x1 : Int) (B : qB) (Q : qO → qB → Prop) : Prop := qY h1 (d + 1) n_Re_readRow 7 [some (.ref 100), some (iv x1), some (iv 0), some (iv 0), some (iv 0), none] [] B Q
theorem c_Re_readRow_0_ok {h1 : qH} {d : Nat} {x1 : Int} {B : qB} {Q : qO → qB → Prop} (hd : 2 ≤ d) (hS : SH B) (w : c_Re_readRow_0 h1 d x1 B Q) : qY h1 (d + 1) n_Re_readRow 0 [some (.ref 100), some (iv x1), none, none, none, none] [] B Q := by
  unfold c_Re_readRow_0 at w
  refine y_op (ck_at dt_Re_readRow 0 rfl) rfl (o_const _) ?_
  refine y_st1 (ok := q_isI) (n := 2) (L' := [some (.ref 100), some (iv x1), some (iv 0), none, none, none]) (ck_at dt_Re_readRow 1 rfl) rfl (fun _ => rfl) (fun _ _ => rfl) rfl nl_Re_readRow (by decide) rfl rfl ?_
  refine y_op (ck_at dt_Re_readRow 2 rfl) rfl (o_const _) ?_
  refine y_st1 (ok := q_isI) (n := 3) (L' := [some (.ref 100), some (iv x1), some (iv 0), some (iv 0), none, none]) (ck_at dt_Re_readRow 3 rfl) rfl (fun _ => rfl) (fun _ _ => rfl) rfl nl_Re_readRow (by decide) rfl rfl ?_
  refine y_op (ck_at dt_Re_readRow 4 rfl) rfl (o_const _) ?_
  refine y_st1 (ok := q_isI) (n := 4) (L' := [some (.ref 100), some (iv x1), some (iv 0), some (iv 0), some (iv 0), none]) (ck_at dt_Re_readRow 5 rfl) rfl (fun _ => rfl) (fun _ _ => rfl) rfl nl_Re_readRow (by decide) rfl rfl ?_
  exact y_wk w ⟨rfl, ⟨rfl, ⟨rfl, ⟨rfl, ⟨rfl, trivial⟩⟩⟩⟩⟩
/-! PatternTrier$Reader.readWays(I)I -/
def t_Re_readWays : List (Nat × Instr × Nat) := [(0, .aload_n 0, 1), (1, .iload_n 1, 1), (2, .invokevirtual 62, 3), (5, .istore_n 2, 1), (6, .aload_n 0, 1), (7, .getfield 9, 3), (10, .iload_n 2, 1), (11, .invokevirtual 65, 3), (14, .istore_n 3, 1), (15, .iconst 0, 1), (16, .istore 4, 2), (18, .iload 4, 2), (20, .sipush 200, 3), (23, .if_icmp .ge 70, 3), (26, .aload_n 0, 1), (27, .invokevirtual 68, 3), (30, .ifCond .ne 63, 3), (33, .aload_n 0, 1), (34, .iconst 0, 1), (35, .invokevirtual 47, 3), (38, .bipush 124, 2), (40, .if_icmp .ne 53, 3), (43, .aload_n 0, 1), (44, .dup, 1), (45, .getfield 28, 3), (48, .iconst 1, 1), (49, .iadd, 1), (50, .putfield 28, 3), (53, .aload_n 0, 1), (54, .iload_n 1, 1), (55, .invokevirtual 62, 3), (58, .istore 5, 2), (60, .aload_n 0, 1), (61, .getfield 9, 3), (64, .iload 5, 2), (66, .iload_n 2, 1), (67, .invokevirtual 72, 3), (70, .iload_n 3, 1), (71, .iconst 1, 1), (72, .aload_n 0, 1), (73, .getfield 9, 3), (76, .iload 5, 2), (78, .invokevirtual 65, 3), (81, .iadd, 1), (82, .iadd, 1), (83, .istore_n 3, 1), (84, .iload 5, 2), (86, .istore_n 2, 1), (87, .iinc 4 1, 3), (90, .goto (-72), 3), (93, .aload_n 0, 1), (94, .getfield 9, 3), (97, .bipush 13, 2), (99, .iconst 0, 1), (100, .iload_n 2, 1), (101, .iload_n 3, 1), (102, .invokevirtual 76, 3), (105, .ireturn, 1)]
set_option maxRecDepth 100000 in
theorem dt_Re_readWays : q_ck n_Re_readWays t_Re_readWays = true := by decide +kernel
def c_Re_readWays_93 (h1 : qH) (d : Nat) (x2 : Int) (x3 : Int) (B : qB) (Q : qO → qB → Prop) : Prop := 1 ≤ B 90 8 ∧ B 90 8 ≤ 408 ∧ R32 x3 ∧ Q (.inl (some (iv (adV B)))) (adT B 13 0 x2 x3)
theorem c_Re_readWays_93_ok {h1 : qH} {d : Nat} {x2 : Int} {x3 : Int} {B : qB} {Q : qO → qB → Prop} (hd : 2 ≤ d) (hS : SH B) (w : c_Re_readWays_93 h1 d x2 x3 B Q) : qY h1 (d + 1) n_Re_readWays 93 [some (.ref 100), none, some (iv x2), some (iv x3), none, none] [] B Q := by
  unfold c_Re_readWays_93 at w
  obtain ⟨p1, p2, p3, w⟩ := w
  refine y_ldk (ok := q_isA) (n := 0) (ck_at dt_Re_readWays 50 rfl) rfl rfl (fun _ => rfl) rfl rfl ?_
  refine y_getF (r := 90) (K := 6) (j := 0) (a := 100) (ck_at dt_Re_readWays 51 rfl) own_Re_readWays (cf_at 22 rfl) rfl rfl ⟨(SH.o hS ⟨by decide, by decide, by decide⟩), ?_⟩
  refine y_op (ck_at dt_Re_readWays 52 rfl) rfl (o_bipush _ (by decide)) ?_
  refine y_op (ck_at dt_Re_readWays 53 rfl) rfl (o_const _) ?_
  refine y_ldk (ok := q_isI) (n := 2) (ck_at dt_Re_readWays 54 rfl) rfl rfl (fun _ => rfl) rfl rfl ?_
  refine y_ldk (ok := q_isI) (n := 3) (ck_at dt_Re_readWays 55 rfl) rfl rfl (fun _ => rfl) rfl rfl ?_
  refine y_virtP (k' := n_Tr_add) (n := 1) (as := [iv 13, iv 0, iv x2, iv x3]) (r := []) (ck_at dt_Re_readWays 56 rfl) own_Re_readWays (cm_at 49 rfl) vk_Tr_add rfl nl_Tr_add rfl rfl rfl rfl (SH.o hS ⟨by decide, by decide, by decide⟩) (Y_Tr_add (by omega) hS p1 p2 p3 ⟨rfl, rfl⟩) ?_
  have hS4 : SH (adT B 13 0 x2 x3) := S_Tr_add hS p1 p2 p3
  exact y_retI (ck_at dt_Re_readWays 57 rfl) rt_Re_readWays w
def c_Re_readWays_58 (h1 : qH) (d : Nat) (x1 : Int) (x2 : Int) (x3 : Int) (x4 : Int) (s0 : Int) (B : qB) (Q : qO → qB → Prop) : Prop := 0 ≤ s0 ∧ s0 < 408 ∧ qY h1 (d + 1) n_Re_readWays 18 [some (.ref 100), some (iv x1), some (iv s0), some (iv (x3 + (1 + ((u2 B 94 s0 x2) 97 s0)))), some (iv (x4 + 1)), none] [] (u2 B 94 s0 x2) Q
theorem c_Re_readWays_58_ok {h1 : qH} {d : Nat} {x1 : Int} {x2 : Int} {x3 : Int} {x4 : Int} {s0 : Int} {B : qB} {Q : qO → qB → Prop} (hd : 2 ≤ d) (hS : SH B) (w : c_Re_readWays_58 h1 d x1 x2 x3 x4 s0 B Q) : qY h1 (d + 1) n_Re_readWays 58 [some (.ref 100), some (iv x1), some (iv x2), some (iv x3), some (iv x4), none] [iv s0] B Q := by
  unfold c_Re_readWays_58 at w
  obtain ⟨p1, p2, w⟩ := w
  refine y_st1 (ok := q_isI) (n := 5) (L' := [some (.ref 100), some (iv x1), some (iv x2), some (iv x3), some (iv x4), some (iv s0)]) (ck_at dt_Re_readWays 31 rfl) rfl (fun _ => rfl) (fun _ _ => rfl) rfl nl_Re_readWays (by decide) rfl rfl ?_
  refine y_ldk (ok := q_isA) (n := 0) (ck_at dt_Re_readWays 32 rfl) rfl rfl (fun _ => rfl) rfl rfl ?_
  refine y_getF (r := 90) (K := 6) (j := 0) (a := 100) (ck_at dt_Re_readWays 33 rfl) own_Re_readWays (cf_at 22 rfl) rfl rfl ⟨(SH.o hS ⟨by decide, by decide, by decide⟩), ?_⟩
  refine y_ldk (ok := q_isI) (n := 5) (ck_at dt_Re_readWays 34 rfl) rfl rfl (fun _ => rfl) rfl rfl ?_
  refine y_ldk (ok := q_isI) (n := 2) (ck_at dt_Re_readWays 35 rfl) rfl rfl (fun _ => rfl) rfl rfl ?_
  refine y_virtV (k' := n_Tr_chain) (n := 0) (as := [iv s0, iv x2]) (r := []) (ck_at dt_Re_readWays 36 rfl) own_Re_readWays (cm_at 48 rfl) vk_Tr_chain rfl nl_Tr_chain rfl rfl rfl rfl (SH.o hS ⟨by decide, by decide, by decide⟩) (Y_Tr_chain (by omega) hS p1 p2 ⟨rfl, rfl⟩) ?_
  have hS3 := SH_u2 (b := 94) (x := s0) (z := x2) hS p1
  refine y_ldk (ok := q_isI) (n := 3) (ck_at dt_Re_readWays 37 rfl) rfl rfl (fun _ => rfl) rfl rfl ?_
  refine y_op (ck_at dt_Re_readWays 38 rfl) rfl (o_const _) ?_
  refine y_ldk (ok := q_isA) (n := 0) (ck_at dt_Re_readWays 39 rfl) rfl rfl (fun _ => rfl) rfl rfl ?_
  refine y_getF (r := 90) (K := 6) (j := 0) (a := 100) (ck_at dt_Re_readWays 40 rfl) own_Re_readWays (cf_at 22 rfl) rfl rfl ⟨(SH.o hS3 ⟨by decide, by decide, by decide⟩), ?_⟩
  refine y_ldk (ok := q_isI) (n := 5) (ck_at dt_Re_readWays 41 rfl) rfl rfl (fun _ => rfl) rfl rfl ?_
  refine y_virtP (k' := n_Tr_weightOf) (n := 0) (as := [iv s0]) (r := [iv 1, iv x3]) (ck_at dt_Re_readWays 42 rfl) own_Re_readWays (cm_at 46 rfl) vk_Tr_weightOf rfl nl_Tr_weightOf rfl rfl rfl rfl (SH.o hS3 ⟨by decide, by decide, by decide⟩) (Y_Tr_weightOf (by omega) hS3 p1 p2 ⟨rfl, rfl⟩) ?_
  refine y_op (ck_at dt_Re_readWays 43 rfl) rfl o_iadd ?_
  refine y_op (ck_at dt_Re_readWays 44 rfl) rfl o_iadd ?_
  refine y_st1 (ok := q_isI) (n := 3) (L' := [some (.ref 100), some (iv x1), some (iv x2), some (iv (x3 + (1 + ((u2 B 94 s0 x2) 97 s0)))), some (iv x4), some (iv s0)]) (ck_at dt_Re_readWays 45 rfl) rfl (fun _ => rfl) (fun _ _ => rfl) rfl nl_Re_readWays (by decide) rfl rfl ?_
  refine y_ldk (ok := q_isI) (n := 5) (ck_at dt_Re_readWays 46 rfl) rfl rfl (fun _ => rfl) rfl rfl ?_
  refine y_st1 (ok := q_isI) (n := 2) (L' := [some (.ref 100), some (iv x1), some (iv s0), some (iv (x3 + (1 + ((u2 B 94 s0 x2) 97 s0)))), some (iv x4), some (iv s0)]) (ck_at dt_Re_readWays 47 rfl) rfl (fun _ => rfl) (fun _ _ => rfl) rfl nl_Re_readWays (by decide) rfl rfl ?_
  refine y_iinc (n := 4) (L' := [some (.ref 100), some (iv x1), some (iv s0), some (iv (x3 + (1 + ((u2 B 94 s0 x2) 97 s0)))), some (iv (x4 + 1)), some (iv s0)]) (ck_at dt_Re_readWays 48 rfl) rfl nl_Re_readWays (by decide) rfl rfl ?_
  refine y_goto (t := 18) (ck_at dt_Re_readWays 49 rfl) rfl ?_
  exact y_wk w ⟨rfl, ⟨rfl, ⟨rfl, ⟨rfl, ⟨rfl, trivial⟩⟩⟩⟩⟩
def c_Re_readWays_18 (h1 : qH) (d : Nat) (x1 : Int) (x2 : Int) (x3 : Int) (x4 : Int) (B : qB) (Q : qO → qB → Prop) : Prop := R32 x4 ∧ (x4 ≥ 200 → c_Re_readWays_93 h1 d x2 x3 B Q) ∧ (x4 < 200 → R32 (B 100 3) ∧ (¬ bi (decide (¬ B 100 3 = (-1))) = 0 → c_Re_readWays_93 h1 d x2 x3 B Q) ∧ (bi (decide (¬ B 100 3 = (-1))) = 0 → RI B ∧ R32 (sgC B (B 100 2 + 0)) ∧ (¬ sgC B (B 100 2 + 0) = 124 → c_Re_readWays_93 h1 d x2 x3 B Q) ∧ (sgC B (B 100 2 + 0) = 124 → qY h1 d n_Re_readRow 0 [some (.ref 100), some (iv x1), none, none, none, none] [] (u2 B 100 2 ((B 100 2) + 1)) (fun o B' => ∃ v : Int, o = .inl (some (iv v)) ∧ SH B' ∧ c_Re_readWays_58 h1 d x1 x2 x3 x4 v B' Q))))
theorem c_Re_readWays_18_ok {h1 : qH} {d : Nat} {x1 : Int} {x2 : Int} {x3 : Int} {x4 : Int} {B : qB} {Q : qO → qB → Prop} (hd : 2 ≤ d) (hS : SH B) (w : c_Re_readWays_18 h1 d x1 x2 x3 x4 B Q) : qY h1 (d + 1) n_Re_readWays 18 [some (.ref 100), some (iv x1), some (iv x2), some (iv x3), some (iv x4), none] [] B Q := by
  unfold c_Re_readWays_18 at w
  obtain ⟨p1, w⟩ := w
  refine y_ldk (ok := q_isI) (n := 4) (ck_at dt_Re_readWays 11 rfl) rfl rfl (fun _ => rfl) rfl rfl ?_
  refine y_op (ck_at dt_Re_readWays 12 rfl) rfl (o_sipush _ (by decide)) ?_
  refine y_icmp (t := 93) (ck_at dt_Re_readWays 13 rfl) rfl p1 ⟨by decide, by decide⟩ ?_ ?_
  · intro q; have w := w.1 q
    exact y_wk (c_Re_readWays_93_ok (by omega) hS w) ⟨rfl, ⟨rfl, ⟨rfl, trivial⟩⟩⟩
  · intro q; have w := w.2 q
    obtain ⟨p2, w⟩ := w
    refine y_ldk (ok := q_isA) (n := 0) (ck_at dt_Re_readWays 14 rfl) rfl rfl (fun _ => rfl) rfl rfl ?_
    refine y_virtP (k' := n_Re_isBroken) (n := 0) (as := []) (r := []) (ck_at dt_Re_readWays 15 rfl) own_Re_readWays (cm_at 47 rfl) vk_Re_isBroken rfl nl_Re_isBroken rfl rfl rfl rfl (SH.o hS ⟨by decide, by decide, by decide⟩) (Y_Re_isBroken (by omega) hS p2 ⟨rfl, rfl⟩) ?_
    refine y_ifz (t := 93) (ck_at dt_Re_readWays 16 rfl) rfl (R32_bi _) ?_ ?_
    · intro q; have w := w.1 q
      exact y_wk (c_Re_readWays_93_ok (by omega) hS w) ⟨rfl, ⟨rfl, ⟨rfl, trivial⟩⟩⟩
    · intro q; have w := w.2 q
      obtain ⟨p3, p4, w⟩ := w
      refine y_ldk (ok := q_isA) (n := 0) (ck_at dt_Re_readWays 17 rfl) rfl rfl (fun _ => rfl) rfl rfl ?_
      refine y_op (ck_at dt_Re_readWays 18 rfl) rfl (o_const _) ?_
      refine y_virtP (k' := n_Re_see) (n := 2) (as := [iv 0]) (r := []) (ck_at dt_Re_readWays 19 rfl) own_Re_readWays (cm_at 41 rfl) vk_Re_see rfl nl_Re_see rfl rfl rfl rfl (SH.o hS ⟨by decide, by decide, by decide⟩) (Y_Re_see (by omega) hS p3 (by decide) (by decide) ⟨rfl, rfl⟩) ?_
      refine y_op (ck_at dt_Re_readWays 20 rfl) rfl (o_bipush _ (by decide)) ?_
      refine y_icmp (t := 93) (ck_at dt_Re_readWays 21 rfl) rfl p4 ⟨by decide, by decide⟩ ?_ ?_
      · intro q; have w := w.1 q
        exact y_wk (c_Re_readWays_93_ok (by omega) hS w) ⟨rfl, ⟨rfl, ⟨rfl, trivial⟩⟩⟩
      · intro q; have w := w.2 q
        refine y_ldk (ok := q_isA) (n := 0) (ck_at dt_Re_readWays 22 rfl) rfl rfl (fun _ => rfl) rfl rfl ?_
        refine y_op (ck_at dt_Re_readWays 23 rfl) rfl rfl ?_
        refine y_getI (K := 6) (j := 2) (a := 100) (ck_at dt_Re_readWays 24 rfl) own_Re_readWays (cf_at 25 rfl) rfl rfl rfl ⟨(SH.o hS ⟨by decide, by decide, by decide⟩), ?_⟩
        refine y_op (ck_at dt_Re_readWays 25 rfl) rfl (o_const _) ?_
        refine y_op (ck_at dt_Re_readWays 26 rfl) rfl o_iadd ?_
        refine y_putI (K := 6) (j := 2) (a := 100) (ck_at dt_Re_readWays 27 rfl) own_Re_readWays (cf_at 25 rfl) rfl rfl rfl rfl rfl ⟨⟨SH.o hS ⟨by decide, by decide, by decide⟩, by decide⟩, ?_⟩
        have hS5 := SH_u2 (b := 100) (x := 2) (z := (B 100 2) + 1) hS (by decide)
        refine y_ldk (ok := q_isA) (n := 0) (ck_at dt_Re_readWays 28 rfl) rfl rfl (fun _ => rfl) rfl rfl ?_
        refine y_ldk (ok := q_isI) (n := 1) (ck_at dt_Re_readWays 29 rfl) rfl rfl (fun _ => rfl) rfl rfl ?_
        refine y_virt (k' := n_Re_readRow) (n := 4) (as := [iv x1]) (r := []) (ck_at dt_Re_readWays 30 rfl) own_Re_readWays (cm_at 45 rfl) vk_Re_readRow rfl nl_Re_readRow rfl rfl rfl rfl ⟨(SH.o hS5 ⟨by decide, by decide, by decide⟩), ?_⟩
        exact w.mono (Nat.le_refl _) (fun o B' ⟨v, ho, hS', w⟩ => Or.inl ⟨some (iv v), ho, y_wk (c_Re_readWays_58_ok (by omega) hS' w) ⟨rfl, ⟨rfl, ⟨rfl, ⟨rfl, ⟨rfl, trivial⟩⟩⟩⟩⟩⟩)
def c_Re_readWays_5 (h1 : qH) (d : Nat) (x1 : Int) (s0 : Int) (B : qB) (Q : qO → qB → Prop) : Prop := 0 ≤ s0 ∧ s0 < 408 ∧ qY h1 (d + 1) n_Re_readWays 18 [some (.ref 100), some (iv x1), some (iv s0), some (iv (B 97 s0)), some (iv 0), none] [] B Q
theorem c_Re_readWays_5_ok {h1 : qH} {d : Nat} {x1 : Int} {s0 : Int} {B : qB} {Q : qO → qB → Prop} (hd : 2 ≤ d) (hS : SH B) (w : c_Re_readWays_5 h1 d x1 s0 B Q) : qY h1 (d + 1) n_Re_readWays 5 [some (.ref 100), some (iv x1), none, none, none, none] [iv s0] B Q := by
  unfold c_Re_readWays_5 at w
  obtain ⟨p1, p2, w⟩ := w
  refine y_st1 (ok := q_isI) (n := 2) (L' := [some (.ref 100), some (iv x1), some (iv s0), none, none, none]) (ck_at dt_Re_readWays 3 rfl) rfl (fun _ => rfl) (fun _ _ => rfl) rfl nl_Re_readWays (by decide) rfl rfl ?_
  refine y_ldk (ok := q_isA) (n := 0) (ck_at dt_Re_readWays 4 rfl) rfl rfl (fun _ => rfl) rfl rfl ?_
  refine y_getF (r := 90) (K := 6) (j := 0) (a := 100) (ck_at dt_Re_readWays 5 rfl) own_Re_readWays (cf_at 22 rfl) rfl rfl ⟨(SH.o hS ⟨by decide, by decide, by decide⟩), ?_⟩
  refine y_ldk (ok := q_isI) (n := 2) (ck_at dt_Re_readWays 6 rfl) rfl rfl (fun _ => rfl) rfl rfl ?_
  refine y_virtP (k' := n_Tr_weightOf) (n := 0) (as := [iv s0]) (r := []) (ck_at dt_Re_readWays 7 rfl) own_Re_readWays (cm_at 46 rfl) vk_Tr_weightOf rfl nl_Tr_weightOf rfl rfl rfl rfl (SH.o hS ⟨by decide, by decide, by decide⟩) (Y_Tr_weightOf (by omega) hS p1 p2 ⟨rfl, rfl⟩) ?_
  refine y_st1 (ok := q_isI) (n := 3) (L' := [some (.ref 100), some (iv x1), some (iv s0), some (iv (B 97 s0)), none, none]) (ck_at dt_Re_readWays 8 rfl) rfl (fun _ => rfl) (fun _ _ => rfl) rfl nl_Re_readWays (by decide) rfl rfl ?_
  refine y_op (ck_at dt_Re_readWays 9 rfl) rfl (o_const _) ?_
  refine y_st1 (ok := q_isI) (n := 4) (L' := [some (.ref 100), some (iv x1), some (iv s0), some (iv (B 97 s0)), some (iv 0), none]) (ck_at dt_Re_readWays 10 rfl) rfl (fun _ => rfl) (fun _ _ => rfl) rfl nl_Re_readWays (by decide) rfl rfl ?_
  exact y_wk w ⟨rfl, ⟨rfl, ⟨rfl, ⟨rfl, ⟨rfl, trivial⟩⟩⟩⟩⟩
def c_Re_readWays_0 (h1 : qH) (d : Nat) (x1 : Int) (B : qB) (Q : qO → qB → Prop) : Prop := qY h1 d n_Re_readRow 0 [some (.ref 100), some (iv x1), none, none, none, none] [] B (fun o B' => ∃ v : Int, o = .inl (some (iv v)) ∧ SH B' ∧ c_Re_readWays_5 h1 d x1 v B' Q)
theorem c_Re_readWays_0_ok {h1 : qH} {d : Nat} {x1 : Int} {B : qB} {Q : qO → qB → Prop} (hd : 2 ≤ d) (hS : SH B) (w : c_Re_readWays_0 h1 d x1 B Q) : qY h1 (d + 1) n_Re_readWays 0 [some (.ref 100), some (iv x1), none, none, none, none] [] B Q := by
  unfold c_Re_readWays_0 at w
  refine y_ldk (ok := q_isA) (n := 0) (ck_at dt_Re_readWays 0 rfl) rfl rfl (fun _ => rfl) rfl rfl ?_
  refine y_ldk (ok := q_isI) (n := 1) (ck_at dt_Re_readWays 1 rfl) rfl rfl (fun _ => rfl) rfl rfl ?_
  refine y_virt (k' := n_Re_readRow) (n := 4) (as := [iv x1]) (r := []) (ck_at dt_Re_readWays 2 rfl) own_Re_readWays (cm_at 45 rfl) vk_Re_readRow rfl nl_Re_readRow rfl rfl rfl rfl ⟨(SH.o hS ⟨by decide, by decide, by decide⟩), ?_⟩
  exact w.mono (Nat.le_refl _) (fun o B' ⟨v, ho, hS', w⟩ => Or.inl ⟨some (iv v), ho, y_wk (c_Re_readWays_5_ok (by omega) hS' w) ⟨rfl, ⟨rfl, trivial⟩⟩⟩)
/-! PatternTrier$Reader.read(LPatternTrier$Bytes;)I -/
def t_Re_read : List (Nat × Instr × Nat) := [(0, .aload_n 0, 1), (1, .aload_n 1, 1), (2, .putfield 15, 3), (5, .aload_n 0, 1), (6, .getfield 9, 3), (9, .invokevirtual 23, 3), (12, .aload_n 0, 1), (13, .iconst 0, 1), (14, .putfield 28, 3), (17, .aload_n 0, 1), (18, .iconst (-1), 1), (19, .putfield 19, 3), (22, .aload_n 0, 1), (23, .iconst 0, 1), (24, .putfield 31, 3), (27, .aload_n 0, 1), (28, .iconst 0, 1), (29, .putfield 34, 3), (32, .aload_n 0, 1), (33, .iconst 0, 1), (34, .putfield 37, 3), (37, .aload_n 0, 1), (38, .aload_n 0, 1), (39, .iconst 0, 1), (40, .invokevirtual 40, 3), (43, .putfield 44, 3), (46, .aload_n 0, 1), (47, .iconst 0, 1), (48, .invokevirtual 47, 3), (51, .iconst (-1), 1), (52, .if_icmp .eq 11, 3), (55, .aload_n 0, 1), (56, .aload_n 0, 1), (57, .getfield 28, 3), (60, .invokevirtual 50, 3), (63, .aload_n 0, 1), (64, .getfield 19, 3), (67, .ireturn, 1)]
set_option maxRecDepth 100000 in
theorem dt_Re_read : q_ck n_Re_read t_Re_read = true := by decide +kernel
def c_Re_read_43 (h1 : qH) (d : Nat) (s1 : Int) (B : qB) (Q : qO → qB → Prop) : Prop := RI (u2 B 100 4 s1) ∧ R32 (sgC (u2 B 100 4 s1) ((u2 B 100 4 s1) 100 2 + 0)) ∧ (sgC (u2 B 100 4 s1) ((u2 B 100 4 s1) 100 2 + 0) = (-1) → Q (.inl (some (iv (B 100 3)))) (u2 B 100 4 s1)) ∧ (¬ sgC (u2 B 100 4 s1) ((u2 B 100 4 s1) 100 2 + 0) = (-1) → R32 ((u2 B 100 4 s1) 100 3) ∧ Q (.inl (some (iv ((brC (u2 B 100 4 s1) (B 100 2)) 100 3)))) (brC (u2 B 100 4 s1) (B 100 2)))
theorem c_Re_read_43_ok {h1 : qH} {d : Nat} {s1 : Int} {B : qB} {Q : qO → qB → Prop} (hd : 2 ≤ d) (hS : SH B) (w : c_Re_read_43 h1 d s1 B Q) : qY h1 (d + 1) n_Re_read 43 [some (.ref 100), none] [iv s1, .ref 100] B Q := by
  unfold c_Re_read_43 at w
  obtain ⟨p2, p3, w⟩ := w
  refine y_putI (K := 6) (j := 4) (a := 100) (ck_at dt_Re_read 25 rfl) own_Re_read (cf_at 29 rfl) rfl rfl rfl rfl rfl ⟨⟨SH.o hS ⟨by decide, by decide, by decide⟩, by decide⟩, ?_⟩
  have hS1 := SH_u2 (b := 100) (x := 4) (z := s1) hS (by decide)
  refine y_ldk (ok := q_isA) (n := 0) (ck_at dt_Re_read 26 rfl) rfl rfl (fun _ => rfl) rfl rfl ?_
  refine y_op (ck_at dt_Re_read 27 rfl) rfl (o_const _) ?_
  refine y_virtP (k' := n_Re_see) (n := 2) (as := [iv 0]) (r := []) (ck_at dt_Re_read 28 rfl) own_Re_read (cm_at 41 rfl) vk_Re_see rfl nl_Re_see rfl rfl rfl rfl (SH.o hS1 ⟨by decide, by decide, by decide⟩) (Y_Re_see (by omega) hS1 p2 (by decide) (by decide) ⟨rfl, rfl⟩) ?_
  refine y_op (ck_at dt_Re_read 29 rfl) rfl (o_const _) ?_
  refine y_icmp (t := 63) (ck_at dt_Re_read 30 rfl) rfl p3 ⟨by decide, by decide⟩ ?_ ?_
  · intro q; have w := w.1 q
    refine y_ldk (ok := q_isA) (n := 0) (ck_at dt_Re_read 35 rfl) rfl rfl (fun _ => rfl) rfl rfl ?_
    refine y_getI (K := 6) (j := 3) (a := 100) (ck_at dt_Re_read 36 rfl) own_Re_read (cf_at 24 rfl) rfl rfl rfl ⟨(SH.o hS1 ⟨by decide, by decide, by decide⟩), ?_⟩
    exact y_retI (ck_at dt_Re_read 37 rfl) rt_Re_read w
  · intro q; have w := w.2 q
    obtain ⟨p4, w⟩ := w
    refine y_ldk (ok := q_isA) (n := 0) (ck_at dt_Re_read 31 rfl) rfl rfl (fun _ => rfl) rfl rfl ?_
    refine y_ldk (ok := q_isA) (n := 0) (ck_at dt_Re_read 32 rfl) rfl rfl (fun _ => rfl) rfl rfl ?_
    refine y_getI (K := 6) (j := 2) (a := 100) (ck_at dt_Re_read 33 rfl) own_Re_read (cf_at 25 rfl) rfl rfl rfl ⟨(SH.o hS1 ⟨by decide, by decide, by decide⟩), ?_⟩
    refine y_virtV (k' := n_Re_breakAt) (n := 0) (as := [iv (B 100 2)]) (r := []) (ck_at dt_Re_read 34 rfl) own_Re_read (cm_at 42 rfl) vk_Re_breakAt rfl nl_Re_breakAt rfl rfl rfl rfl (SH.o hS1 ⟨by decide, by decide, by decide⟩) (Y_Re_breakAt (by omega) hS1 p4 ⟨rfl, rfl⟩) ?_
    have hS5 : SH (brC (u2 B 100 4 s1) (B 100 2)) := S_Re_breakAt hS1
    refine y_ldk (ok := q_isA) (n := 0) (ck_at dt_Re_read 35 rfl) rfl rfl (fun _ => rfl) rfl rfl ?_
    refine y_getI (K := 6) (j := 3) (a := 100) (ck_at dt_Re_read 36 rfl) own_Re_read (cf_at 24 rfl) rfl rfl rfl ⟨(SH.o hS5 ⟨by decide, by decide, by decide⟩), ?_⟩
    exact y_retI (ck_at dt_Re_read 37 rfl) rt_Re_read w
def c_Re_read_0 (h1 : qH) (d : Nat) (a1 : Nat) (B : qB) (Q : qO → qB → Prop) : Prop := qY h1 d n_Re_readWays 0 [some (.ref 100), some (iv 0), none, none, none, none] [] (u2 (u2 (u2 (u2 (u2 (u2 (u2 (u2 B 100 1 ((a1 : Nat) : Int)) 90 8 1) 98 1 0) 100 2 0) 100 3 (-1)) 100 5 0) 100 6 0) 100 7 0) (fun o B' => ∃ v : Int, o = .inl (some (iv v)) ∧ SH B' ∧ c_Re_read_43 h1 d v B' Q)
theorem c_Re_read_0_ok {h1 : qH} {d : Nat} {a1 : Nat} {B : qB} {Q : qO → qB → Prop} (hd : 2 ≤ d) (hS : SH B) (ha1 : ob 1 a1) (w : c_Re_read_0 h1 d a1 B Q) : qY h1 (d + 1) n_Re_read 0 [some (.ref 100), some (.ref a1)] [] B Q := by
  unfold c_Re_read_0 at w
  refine y_ldk (ok := q_isA) (n := 0) (ck_at dt_Re_read 0 rfl) rfl rfl (fun _ => rfl) rfl rfl ?_
  refine y_ldk (ok := q_isA) (n := 1) (ck_at dt_Re_read 1 rfl) rfl rfl (fun _ => rfl) rfl rfl ?_
  refine y_putR (K := 6) (j := 1) (a := 100) (ck_at dt_Re_read 2 rfl) own_Re_read (cf_at 23 rfl) rfl rfl rfl rfl rfl rfl ⟨⟨SH.o hS ⟨by decide, by decide, by decide⟩, by decide⟩, ?_⟩
  have hS1 := SH_u2 (b := 100) (x := 1) (z := ((a1 : Nat) : Int)) hS (by decide)
  refine y_ldk (ok := q_isA) (n := 0) (ck_at dt_Re_read 3 rfl) rfl rfl (fun _ => rfl) rfl rfl ?_
  refine y_getF (r := 90) (K := 6) (j := 0) (a := 100) (ck_at dt_Re_read 4 rfl) own_Re_read (cf_at 22 rfl) rfl rfl ⟨(SH.o hS1 ⟨by decide, by decide, by decide⟩), ?_⟩
  refine y_virtV (k' := n_Tr_clear) (n := 0) (as := []) (r := []) (ck_at dt_Re_read 5 rfl) own_Re_read (cm_at 39 rfl) vk_Tr_clear rfl nl_Tr_clear rfl rfl rfl rfl (SH.o hS1 ⟨by decide, by decide, by decide⟩) (Y_Tr_clear (by omega) hS1 ⟨rfl, rfl⟩) ?_
  have hS2 := SH_u2 (b := 90) (x := 8) (z := 1) hS1 (by decide)
  have hS3 := SH_u2 (b := 98) (x := 1) (z := 0) hS2 (by decide)
  refine y_ldk (ok := q_isA) (n := 0) (ck_at dt_Re_read 6 rfl) rfl rfl (fun _ => rfl) rfl rfl ?_
  refine y_op (ck_at dt_Re_read 7 rfl) rfl (o_const _) ?_
  refine y_putI (K := 6) (j := 2) (a := 100) (ck_at dt_Re_read 8 rfl) own_Re_read (cf_at 25 rfl) rfl rfl rfl rfl rfl ⟨⟨SH.o hS3 ⟨by decide, by decide, by decide⟩, by decide⟩, ?_⟩
  have hS4 := SH_u2 (b := 100) (x := 2) (z := 0) hS3 (by decide)
  refine y_ldk (ok := q_isA) (n := 0) (ck_at dt_Re_read 9 rfl) rfl rfl (fun _ => rfl) rfl rfl ?_
  refine y_op (ck_at dt_Re_read 10 rfl) rfl (o_const _) ?_
  refine y_putI (K := 6) (j := 3) (a := 100) (ck_at dt_Re_read 11 rfl) own_Re_read (cf_at 24 rfl) rfl rfl rfl rfl rfl ⟨⟨SH.o hS4 ⟨by decide, by decide, by decide⟩, by decide⟩, ?_⟩
  have hS5 := SH_u2 (b := 100) (x := 3) (z := (-1)) hS4 (by decide)
  refine y_ldk (ok := q_isA) (n := 0) (ck_at dt_Re_read 12 rfl) rfl rfl (fun _ => rfl) rfl rfl ?_
  refine y_op (ck_at dt_Re_read 13 rfl) rfl (o_const _) ?_
  refine y_putI (K := 6) (j := 5) (a := 100) (ck_at dt_Re_read 14 rfl) own_Re_read (cf_at 26 rfl) rfl rfl rfl rfl rfl ⟨⟨SH.o hS5 ⟨by decide, by decide, by decide⟩, by decide⟩, ?_⟩
  have hS6 := SH_u2 (b := 100) (x := 5) (z := 0) hS5 (by decide)
  refine y_ldk (ok := q_isA) (n := 0) (ck_at dt_Re_read 15 rfl) rfl rfl (fun _ => rfl) rfl rfl ?_
  refine y_op (ck_at dt_Re_read 16 rfl) rfl (o_const _) ?_
  refine y_putI (K := 6) (j := 6) (a := 100) (ck_at dt_Re_read 17 rfl) own_Re_read (cf_at 27 rfl) rfl rfl rfl rfl rfl ⟨⟨SH.o hS6 ⟨by decide, by decide, by decide⟩, by decide⟩, ?_⟩
  have hS7 := SH_u2 (b := 100) (x := 6) (z := 0) hS6 (by decide)
  refine y_ldk (ok := q_isA) (n := 0) (ck_at dt_Re_read 18 rfl) rfl rfl (fun _ => rfl) rfl rfl ?_
  refine y_op (ck_at dt_Re_read 19 rfl) rfl (o_const _) ?_
  refine y_putI (K := 6) (j := 7) (a := 100) (ck_at dt_Re_read 20 rfl) own_Re_read (cf_at 28 rfl) rfl rfl rfl rfl rfl ⟨⟨SH.o hS7 ⟨by decide, by decide, by decide⟩, by decide⟩, ?_⟩
  have hS8 := SH_u2 (b := 100) (x := 7) (z := 0) hS7 (by decide)
  refine y_ldk (ok := q_isA) (n := 0) (ck_at dt_Re_read 21 rfl) rfl rfl (fun _ => rfl) rfl rfl ?_
  refine y_ldk (ok := q_isA) (n := 0) (ck_at dt_Re_read 22 rfl) rfl rfl (fun _ => rfl) rfl rfl ?_
  refine y_op (ck_at dt_Re_read 23 rfl) rfl (o_const _) ?_
  refine y_virt (k' := n_Re_readWays) (n := 4) (as := [iv 0]) (r := [.ref 100]) (ck_at dt_Re_read 24 rfl) own_Re_read (cm_at 40 rfl) vk_Re_readWays rfl nl_Re_readWays rfl rfl rfl rfl ⟨(SH.o hS8 ⟨by decide, by decide, by decide⟩), ?_⟩
  exact w.mono (Nat.le_refl _) (fun o B' ⟨v, ho, hS', w⟩ => Or.inl ⟨some (iv v), ho, y_wk (c_Re_read_43_ok (by omega) hS' w) ⟨rfl, trivial⟩⟩)
