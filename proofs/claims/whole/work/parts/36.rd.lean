/-! match(IIII)I -/
def t_match : List (Nat × Instr × Nat) := [(0, .iload_n 1, 1), (1, .iconst 0, 1), (2, .bipush 7, 2), (4, .invokestatic 170, 3), (7, .ifCond .eq 21, 3), (10, .iload_n 2, 1), (11, .iconst 0, 1), (12, .iconst 3, 1), (13, .invokestatic 170, 3), (16, .ifCond .eq 12, 3), (19, .iload_n 3, 1), (20, .iconst 0, 1), (21, .iconst 2, 1), (22, .invokestatic 170, 3), (25, .ifCond .ne 9, 3), (28, .aload_n 0, 1), (29, .iconst 1, 1), (30, .invokevirtual 162, 3), (33, .ireturn, 1), (34, .aload_n 0, 1), (35, .getfield 23, 3), (38, .iload_n 1, 1), (39, .iaload, 1), (40, .ifCond .ne 9, 3), (43, .aload_n 0, 1), (44, .iconst 2, 1), (45, .invokevirtual 162, 3), (48, .ireturn, 1), (49, .iload_n 3, 1), (50, .ifCond .le 24, 3), (53, .iload 4, 2), (55, .iconst 0, 1), (56, .aload_n 0, 1), (57, .getfield 32, 3), (60, .iload_n 2, 1), (61, .iaload, 1), (62, .invokestatic 170, 3), (65, .ifCond .ne 9, 3), (68, .aload_n 0, 1), (69, .iconst 3, 1), (70, .invokevirtual 162, 3), (73, .ireturn, 1), (74, .aload_n 0, 1), (75, .iconst 0, 1), (76, .putfield 156, 3), (79, .aload_n 0, 1), (80, .iload_n 1, 1), (81, .iload_n 2, 1), (82, .invokevirtual 383, 3), (85, .aload_n 0, 1), (86, .iload_n 3, 1), (87, .ifCond .ne 7, 3), (90, .iconst 1, 1), (91, .goto 4, 3), (94, .iconst 0, 1), (95, .putfield 360, 3), (98, .iconst (-1), 1), (99, .istore 5, 2), (101, .iload_n 3, 1), (102, .iconst 2, 1), (103, .if_icmp .ge 22, 3), (106, .aload_n 0, 1), (107, .iload_n 3, 1), (108, .ifCond .ne 7, 3), (111, .iconst 0, 1), (112, .goto 5, 3), (115, .iload 4, 2), (117, .invokevirtual 386, 3), (120, .istore 5, 2), (122, .goto 37, 3), (125, .iload 4, 2), (127, .istore 6, 2), (129, .iload 6, 2), (131, .aload_n 0, 1), (132, .getfield 32, 3), (135, .iload_n 2, 1), (136, .iaload, 1), (137, .if_icmp .gt 22, 3), (140, .iload 5, 2), (142, .ifCond .ge 17, 3), (145, .aload_n 0, 1), (146, .iload 6, 2), (148, .invokevirtual 386, 3), (151, .istore 5, 2), (153, .iinc 6 1, 3), (156, .goto (-27), 3), (159, .aload_n 0, 1), (160, .iconst 0, 1), (161, .putfield 360, 3), (164, .iload 5, 2), (166, .ifCond .ge 5, 3), (169, .iconst (-1), 1), (170, .ireturn, 1), (171, .iconst 0, 1), (172, .istore 6, 2), (174, .iload 6, 2), (176, .bipush 20, 2), (178, .if_icmp .ge 23, 3), (181, .aload_n 0, 1), (182, .getfield 115, 3), (185, .iload 6, 2), (187, .aload_n 0, 1), (188, .getfield 112, 3), (191, .iload 6, 2), (193, .iaload, 1), (194, .iastore, 1), (195, .iinc 6 1, 3), (198, .goto (-24), 3), (201, .aload_n 0, 1), (202, .iconst 1, 1), (203, .putfield 389, 3), (206, .iload 5, 2), (208, .ireturn, 1)]
set_option maxRecDepth 100000 in
theorem dt_match : q_ck k_match t_match = true := by decide +kernel
def r_match_174 (m : Nat) (h0 : qH) (d : Nat) (x5 x6 : Int) (B : qB) (Q : qO → qB → Prop) : Prop := R32 x6 ∧ (x6 ≥ 20 → Q (.inl (some (iv x5))) (u2 B 71 0 1)) ∧ (x6 < 20 → 0 ≤ x6 ∧ x6 < 20 ∧ qZ m h0 (d + 1) k_match 174 [some (.ref m), none, none, none, none, some (iv x5), some (iv (x6 + 1))] [] (u2 B 50 x6 (B 49 x6)) Q)
theorem r_match_174_ok {m : Nat} {h0 : qH} {d : Nat} {x5 x6 : Int} {B : qB} {Q : qO → qB → Prop} (hm : m + 100 < 1000000000) (w : r_match_174 m h0 d x5 x6 B Q) : qZ m h0 (d + 1) k_match 174 [some (.ref m), none, none, none, none, some (iv x5), some (iv x6)] [] B Q := by
  unfold r_match_174 at w
  obtain ⟨p1, w⟩ := w
  refine z_ldk (ok := q_isI) (n := 6) (ck_at dt_match 95 rfl) rfl rfl (fun _ => rfl) rfl rfl ?_
  refine z_op (ck_at dt_match 96 rfl) rfl (o_bipush _ (by decide)) ?_
  refine z_icmp (t := 201) (ck_at dt_match 97 rfl) rfl p1 ⟨by decide, by decide⟩ ?_ ?_
  · intro q; have w := w.1 q
    refine z_ldk (ok := q_isA) (n := 0) (ck_at dt_match 108 rfl) rfl rfl (fun _ => rfl) rfl rfl ?_
    refine z_op (ck_at dt_match 109 rfl) rfl (o_const _) ?_
    refine z_putZ (j := 71) hm (ck_at dt_match 110 rfl) own_match (mf_at 60 rfl) (by decide) rfl rfl rfl (by decide) ?_
    refine z_ldk (ok := q_isI) (n := 5) (ck_at dt_match 111 rfl) rfl rfl (fun _ => rfl) rfl rfl ?_
    exact z_retI (ck_at dt_match 112 rfl) rt_match w
  · intro q; have w := w.2 q
    obtain ⟨p2, p3, w⟩ := w
    refine z_ldk (ok := q_isA) (n := 0) (ck_at dt_match 98 rfl) rfl rfl (fun _ => rfl) rfl rfl ?_
    refine z_getR (j := 50) (a := 33) (ck_at dt_match 99 rfl) own_match (mf_at 34 rfl) (by decide) rfl rfl ?_
    refine z_ldk (ok := q_isI) (n := 6) (ck_at dt_match 100 rfl) rfl rfl (fun _ => rfl) rfl rfl ?_
    refine z_ldk (ok := q_isA) (n := 0) (ck_at dt_match 101 rfl) rfl rfl (fun _ => rfl) rfl rfl ?_
    refine z_getR (j := 49) (a := 32) (ck_at dt_match 102 rfl) own_match (mf_at 33 rfl) (by decide) rfl rfl ?_
    refine z_ldk (ok := q_isI) (n := 6) (ck_at dt_match 103 rfl) rfl rfl (fun _ => rfl) rfl rfl ?_
    refine z_iald (j := 49) (n := 20) (ck_at dt_match 104 rfl) rfl rfl rfl p2 p3 ?_
    refine z_iast (j := 50) (n := 20) hm (ck_at dt_match 105 rfl) rfl rfl rfl p2 p3 ?_
    refine z_iinc (n := 6) (L' := [some (.ref m), none, none, none, none, some (iv x5), some (iv (x6 + 1))]) (ck_at dt_match 106 rfl) rfl nl_match (by decide) rfl rfl ?_
    refine z_goto (t := 174) (ck_at dt_match 107 rfl) rfl ?_
    exact z_wk w ⟨rfl, ⟨rfl, ⟨rfl, trivial⟩⟩⟩
def r_match_159 (m : Nat) (h0 : qH) (d : Nat) (x5 : Int) (B : qB) (Q : qO → qB → Prop) : Prop := R32 x5 ∧ (x5 ≥ 0 → qZ m h0 (d + 1) k_match 174 [some (.ref m), none, none, none, none, some (iv x5), some (iv 0)] [] (u2 B 59 0 0) Q) ∧ (x5 < 0 → Q (.inl (some (iv (-1)))) (u2 B 59 0 0))
theorem r_match_159_ok {m : Nat} {h0 : qH} {d : Nat} {x5 : Int} {B : qB} {Q : qO → qB → Prop} (hm : m + 100 < 1000000000) (w : r_match_159 m h0 d x5 B Q) : qZ m h0 (d + 1) k_match 159 [some (.ref m), none, none, none, none, some (iv x5), none] [] B Q := by
  unfold r_match_159 at w
  obtain ⟨p1, w⟩ := w
  refine z_ldk (ok := q_isA) (n := 0) (ck_at dt_match 86 rfl) rfl rfl (fun _ => rfl) rfl rfl ?_
  refine z_op (ck_at dt_match 87 rfl) rfl (o_const _) ?_
  refine z_putZ (j := 59) hm (ck_at dt_match 88 rfl) own_match (mf_at 59 rfl) (by decide) rfl rfl rfl (by decide) ?_
  refine z_ldk (ok := q_isI) (n := 5) (ck_at dt_match 89 rfl) rfl rfl (fun _ => rfl) rfl rfl ?_
  refine z_ifz (t := 171) (ck_at dt_match 90 rfl) rfl p1 ?_ ?_
  · intro q; have w := w.1 q
    refine z_op (ck_at dt_match 93 rfl) rfl (o_const _) ?_
    refine z_st1 (ok := q_isI) (n := 6) (L' := [some (.ref m), none, none, none, none, some (iv x5), some (iv 0)]) (ck_at dt_match 94 rfl) rfl (fun _ => rfl) (fun _ _ => rfl) rfl nl_match (by decide) rfl rfl ?_
    exact z_wk w ⟨rfl, ⟨rfl, ⟨rfl, trivial⟩⟩⟩
  · intro q; have w := w.2 q
    refine z_op (ck_at dt_match 91 rfl) rfl (o_const _) ?_
    exact z_retI (ck_at dt_match 92 rfl) rt_match w
def r_match_151 (m : Nat) (h0 : qH) (d : Nat) (x2 x6 s0 : Int) (B : qB) (Q : qO → qB → Prop) : Prop := qZ m h0 (d + 1) k_match 129 [some (.ref m), none, some (iv x2), none, none, some (iv s0), some (iv (x6 + 1))] [] B Q
theorem r_match_151_ok {m : Nat} {h0 : qH} {d : Nat} {x2 x6 s0 : Int} {B : qB} {Q : qO → qB → Prop} (hm : m + 100 < 1000000000) (w : r_match_151 m h0 d x2 x6 s0 B Q) : qZ m h0 (d + 1) k_match 151 [some (.ref m), none, some (iv x2), none, none, none, some (iv x6)] [iv s0] B Q := by
  unfold r_match_151 at w
  refine z_st1 (ok := q_isI) (n := 5) (L' := [some (.ref m), none, some (iv x2), none, none, some (iv s0), some (iv x6)]) (ck_at dt_match 83 rfl) rfl (fun _ => rfl) (fun _ _ => rfl) rfl nl_match (by decide) trivial rfl ?_
  refine z_iinc (n := 6) (L' := [some (.ref m), none, some (iv x2), none, none, some (iv s0), some (iv (x6 + 1))]) (ck_at dt_match 84 rfl) rfl nl_match (by decide) rfl rfl ?_
  refine z_goto (t := 129) (ck_at dt_match 85 rfl) rfl ?_
  exact z_wk w ⟨rfl, ⟨rfl, ⟨rfl, ⟨rfl, trivial⟩⟩⟩⟩
def r_match_129 (m : Nat) (h0 : qH) (d : Nat) (x2 x5 x6 : Int) (B : qB) (Q : qO → qB → Prop) : Prop := 0 ≤ x2 ∧ x2 < 4 ∧ R32 x6 ∧ R32 (B 9 x2) ∧ (x6 > B 9 x2 → r_match_159 m h0 d x5 B Q) ∧ (x6 ≤ B 9 x2 → R32 x5 ∧ (x5 ≥ 0 → r_match_159 m h0 d x5 B Q) ∧ (x5 < 0 → qZ m h0 d k_tryAt 0 [some (.ref m), some (iv x6), none] [] B (fun o B' => ∃ v : Int, o = .inl (some (iv v)) ∧ r_match_151 m h0 d x2 x6 v B' Q)))
theorem r_match_129_ok {m : Nat} {h0 : qH} {d : Nat} {x2 x5 x6 : Int} {B : qB} {Q : qO → qB → Prop} (hm : m + 100 < 1000000000) (w : r_match_129 m h0 d x2 x5 x6 B Q) : qZ m h0 (d + 1) k_match 129 [some (.ref m), none, some (iv x2), none, none, some (iv x5), some (iv x6)] [] B Q := by
  unfold r_match_129 at w
  obtain ⟨p1, p2, p3, p4, w⟩ := w
  refine z_ldk (ok := q_isI) (n := 6) (ck_at dt_match 72 rfl) rfl rfl (fun _ => rfl) rfl rfl ?_
  refine z_ldk (ok := q_isA) (n := 0) (ck_at dt_match 73 rfl) rfl rfl (fun _ => rfl) rfl rfl ?_
  refine z_getR (j := 9) (a := 6) (ck_at dt_match 74 rfl) own_match (mf_at 7 rfl) (by decide) rfl rfl ?_
  refine z_ldk (ok := q_isI) (n := 2) (ck_at dt_match 75 rfl) rfl rfl (fun _ => rfl) rfl rfl ?_
  refine z_iald (j := 9) (n := 4) (ck_at dt_match 76 rfl) rfl rfl rfl p1 p2 ?_
  refine z_icmp (t := 159) (ck_at dt_match 77 rfl) rfl p3 p4 ?_ ?_
  · intro q; have w := w.1 q
    exact z_wk (r_match_159_ok hm w) ⟨rfl, ⟨rfl, trivial⟩⟩
  · intro q; have w := w.2 q
    obtain ⟨p5, w⟩ := w
    refine z_ldk (ok := q_isI) (n := 5) (ck_at dt_match 78 rfl) rfl rfl (fun _ => rfl) rfl rfl ?_
    refine z_ifz (t := 159) (ck_at dt_match 79 rfl) rfl p5 ?_ ?_
    · intro q; have w := w.1 q
      exact z_wk (r_match_159_ok hm w) ⟨rfl, ⟨rfl, trivial⟩⟩
    · intro q; have w := w.2 q
      refine z_ldk (ok := q_isA) (n := 0) (ck_at dt_match 80 rfl) rfl rfl (fun _ => rfl) rfl rfl ?_
      refine z_ldk (ok := q_isI) (n := 6) (ck_at dt_match 81 rfl) rfl rfl (fun _ => rfl) rfl rfl ?_
      refine z_virt (k' := k_tryAt) (n := 1) (as := [iv x6]) (r := []) (ck_at dt_match 82 rfl) own_match (mm_at 27 rfl) vk_tryAt rfl nl_tryAt rfl rfl rfl rfl ?_
      exact w.mono (Nat.le_refl _) (fun o B' ⟨v, ho, w⟩ => ⟨some (iv v), ho, z_wk (r_match_151_ok hm w) ⟨rfl, ⟨rfl, ⟨rfl, trivial⟩⟩⟩⟩)
def r_match_120 (m : Nat) (h0 : qH) (d : Nat) (s0 : Int) (B : qB) (Q : qO → qB → Prop) : Prop := r_match_159 m h0 d s0 B Q
theorem r_match_120_ok {m : Nat} {h0 : qH} {d : Nat} {s0 : Int} {B : qB} {Q : qO → qB → Prop} (hm : m + 100 < 1000000000) (w : r_match_120 m h0 d s0 B Q) : qZ m h0 (d + 1) k_match 120 [some (.ref m), none, none, none, none, none, none] [iv s0] B Q := by
  unfold r_match_120 at w
  refine z_st1 (ok := q_isI) (n := 5) (L' := [some (.ref m), none, none, none, none, some (iv s0), none]) (ck_at dt_match 68 rfl) rfl (fun _ => rfl) (fun _ _ => rfl) rfl nl_match (by decide) trivial rfl ?_
  refine z_goto (t := 159) (ck_at dt_match 69 rfl) rfl ?_
  exact z_wk (r_match_159_ok hm w) ⟨rfl, ⟨rfl, trivial⟩⟩
def r_match_117 (m : Nat) (h0 : qH) (d : Nat) (s1 : Int) (B : qB) (Q : qO → qB → Prop) : Prop := qZ m h0 d k_tryAt 0 [some (.ref m), some (iv s1), none] [] B (fun o B' => ∃ v : Int, o = .inl (some (iv v)) ∧ r_match_120 m h0 d v B' Q)
theorem r_match_117_ok {m : Nat} {h0 : qH} {d : Nat} {s1 : Int} {B : qB} {Q : qO → qB → Prop} (hm : m + 100 < 1000000000) (w : r_match_117 m h0 d s1 B Q) : qZ m h0 (d + 1) k_match 117 [some (.ref m), none, none, none, none, none, none] [iv s1, .ref m] B Q := by
  unfold r_match_117 at w
  refine z_virt (k' := k_tryAt) (n := 1) (as := [iv s1]) (r := []) (ck_at dt_match 67 rfl) own_match (mm_at 27 rfl) vk_tryAt rfl nl_tryAt rfl rfl rfl rfl ?_
  exact w.mono (Nat.le_refl _) (fun o B' ⟨v, ho, w⟩ => ⟨some (iv v), ho, z_wk (r_match_120_ok hm w) ⟨rfl, trivial⟩⟩)
def r_match_95 (m : Nat) (h0 : qH) (d : Nat) (x2 x3 x4 s1 : Int) (B : qB) (Q : qO → qB → Prop) : Prop := (s1 = 0 ∨ s1 = 1) ∧ R32 x3 ∧ (x3 ≥ 2 → qZ m h0 (d + 1) k_match 129 [some (.ref m), none, some (iv x2), none, none, some (iv (-1)), some (iv x4)] [] (u2 B 59 0 s1) Q) ∧ (x3 < 2 → (¬ x3 = 0 → r_match_117 m h0 d x4 (u2 B 59 0 s1) Q) ∧ (x3 = 0 → r_match_117 m h0 d 0 (u2 B 59 0 s1) Q))
theorem r_match_95_ok {m : Nat} {h0 : qH} {d : Nat} {x2 x3 x4 s1 : Int} {B : qB} {Q : qO → qB → Prop} (hm : m + 100 < 1000000000) (w : r_match_95 m h0 d x2 x3 x4 s1 B Q) : qZ m h0 (d + 1) k_match 95 [some (.ref m), none, some (iv x2), some (iv x3), some (iv x4), none, none] [iv s1, .ref m] B Q := by
  unfold r_match_95 at w
  obtain ⟨p1, p2, w⟩ := w
  refine z_putZ (j := 59) hm (ck_at dt_match 55 rfl) own_match (mf_at 59 rfl) (by decide) rfl rfl rfl p1 ?_
  refine z_op (ck_at dt_match 56 rfl) rfl (o_const _) ?_
  refine z_st1 (ok := q_isI) (n := 5) (L' := [some (.ref m), none, some (iv x2), some (iv x3), some (iv x4), some (iv (-1)), none]) (ck_at dt_match 57 rfl) rfl (fun _ => rfl) (fun _ _ => rfl) rfl nl_match (by decide) rfl rfl ?_
  refine z_ldk (ok := q_isI) (n := 3) (ck_at dt_match 58 rfl) rfl rfl (fun _ => rfl) rfl rfl ?_
  refine z_op (ck_at dt_match 59 rfl) rfl (o_const _) ?_
  refine z_icmp (t := 125) (ck_at dt_match 60 rfl) rfl p2 ⟨by decide, by decide⟩ ?_ ?_
  · intro q; have w := w.1 q
    refine z_ldk (ok := q_isI) (n := 4) (ck_at dt_match 70 rfl) rfl rfl (fun _ => rfl) rfl rfl ?_
    refine z_st1 (ok := q_isI) (n := 6) (L' := [some (.ref m), none, some (iv x2), some (iv x3), some (iv x4), some (iv (-1)), some (iv x4)]) (ck_at dt_match 71 rfl) rfl (fun _ => rfl) (fun _ _ => rfl) rfl nl_match (by decide) rfl rfl ?_
    exact z_wk w ⟨rfl, ⟨rfl, ⟨rfl, ⟨rfl, trivial⟩⟩⟩⟩
  · intro q; have w := w.2 q
    refine z_ldk (ok := q_isA) (n := 0) (ck_at dt_match 61 rfl) rfl rfl (fun _ => rfl) rfl rfl ?_
    refine z_ldk (ok := q_isI) (n := 3) (ck_at dt_match 62 rfl) rfl rfl (fun _ => rfl) rfl rfl ?_
    refine z_ifz (t := 115) (ck_at dt_match 63 rfl) rfl p2 ?_ ?_
    · intro q; have w := w.1 q
      refine z_ldk (ok := q_isI) (n := 4) (ck_at dt_match 66 rfl) rfl rfl (fun _ => rfl) rfl rfl ?_
      exact z_wk (r_match_117_ok hm w) ⟨rfl, trivial⟩
    · intro q; have w := w.2 q
      refine z_op (ck_at dt_match 64 rfl) rfl (o_const _) ?_
      refine z_goto (t := 117) (ck_at dt_match 65 rfl) rfl ?_
      exact z_wk (r_match_117_ok hm w) ⟨rfl, trivial⟩
def r_match_85 (m : Nat) (h0 : qH) (d : Nat) (x2 x3 x4 : Int) (B : qB) (Q : qO → qB → Prop) : Prop := R32 x3 ∧ (¬ x3 = 0 → r_match_95 m h0 d x2 x3 x4 0 B Q) ∧ (x3 = 0 → r_match_95 m h0 d x2 x3 x4 1 B Q)
theorem r_match_85_ok {m : Nat} {h0 : qH} {d : Nat} {x2 x3 x4 : Int} {B : qB} {Q : qO → qB → Prop} (hm : m + 100 < 1000000000) (w : r_match_85 m h0 d x2 x3 x4 B Q) : qZ m h0 (d + 1) k_match 85 [some (.ref m), none, some (iv x2), some (iv x3), some (iv x4), none, none] [] B Q := by
  unfold r_match_85 at w
  obtain ⟨p1, w⟩ := w
  refine z_ldk (ok := q_isA) (n := 0) (ck_at dt_match 49 rfl) rfl rfl (fun _ => rfl) rfl rfl ?_
  refine z_ldk (ok := q_isI) (n := 3) (ck_at dt_match 50 rfl) rfl rfl (fun _ => rfl) rfl rfl ?_
  refine z_ifz (t := 94) (ck_at dt_match 51 rfl) rfl p1 ?_ ?_
  · intro q; have w := w.1 q
    refine z_op (ck_at dt_match 54 rfl) rfl (o_const _) ?_
    exact z_wk (r_match_95_ok hm w) ⟨rfl, ⟨rfl, ⟨rfl, ⟨rfl, trivial⟩⟩⟩⟩
  · intro q; have w := w.2 q
    refine z_op (ck_at dt_match 52 rfl) rfl (o_const _) ?_
    refine z_goto (t := 95) (ck_at dt_match 53 rfl) rfl ?_
    exact z_wk (r_match_95_ok hm w) ⟨rfl, ⟨rfl, ⟨rfl, ⟨rfl, trivial⟩⟩⟩⟩
def r_match_74 (m : Nat) (h0 : qH) (d : Nat) (x1 x2 x3 x4 : Int) (B : qB) (Q : qO → qB → Prop) : Prop := qZ m h0 d k_prepare 0 [some (.ref m), some (iv x1), some (iv x2)] [] (u2 B 0 0 0) (fun o B' => o = .inl none ∧ r_match_85 m h0 d x2 x3 x4 B' Q)
theorem r_match_74_ok {m : Nat} {h0 : qH} {d : Nat} {x1 x2 x3 x4 : Int} {B : qB} {Q : qO → qB → Prop} (hm : m + 100 < 1000000000) (w : r_match_74 m h0 d x1 x2 x3 x4 B Q) : qZ m h0 (d + 1) k_match 74 [some (.ref m), some (iv x1), some (iv x2), some (iv x3), some (iv x4), none, none] [] B Q := by
  unfold r_match_74 at w
  refine z_ldk (ok := q_isA) (n := 0) (ck_at dt_match 42 rfl) rfl rfl (fun _ => rfl) rfl rfl ?_
  refine z_op (ck_at dt_match 43 rfl) rfl (o_const _) ?_
  refine z_putI (j := 0) hm (ck_at dt_match 44 rfl) own_match (mf_at 47 rfl) (by decide) rfl rfl rfl ?_
  refine z_ldk (ok := q_isA) (n := 0) (ck_at dt_match 45 rfl) rfl rfl (fun _ => rfl) rfl rfl ?_
  refine z_ldk (ok := q_isI) (n := 1) (ck_at dt_match 46 rfl) rfl rfl (fun _ => rfl) rfl rfl ?_
  refine z_ldk (ok := q_isI) (n := 2) (ck_at dt_match 47 rfl) rfl rfl (fun _ => rfl) rfl rfl ?_
  refine z_virt (k' := k_prepare) (n := 0) (as := [iv x1, iv x2]) (r := []) (ck_at dt_match 48 rfl) own_match (mm_at 26 rfl) vk_prepare rfl nl_prepare rfl rfl rfl rfl ?_
  exact w.mono (Nat.le_refl _) (fun o B' ⟨ho, w⟩ => ⟨none, ho, z_wk (r_match_85_ok hm w) ⟨rfl, ⟨rfl, ⟨rfl, ⟨rfl, trivial⟩⟩⟩⟩⟩)
def r_match_73 (m : Nat) (h0 : qH) (d : Nat) (s0 : Int) (B : qB) (Q : qO → qB → Prop) : Prop := Q (.inl (some (iv s0))) B
theorem r_match_73_ok {m : Nat} {h0 : qH} {d : Nat} {s0 : Int} {B : qB} {Q : qO → qB → Prop} (hm : m + 100 < 1000000000) (w : r_match_73 m h0 d s0 B Q) : qZ m h0 (d + 1) k_match 73 [none, none, none, none, none, none, none] [iv s0] B Q := by
  unfold r_match_73 at w
  exact z_retI (ck_at dt_match 41 rfl) rt_match w
def r_match_65 (m : Nat) (h0 : qH) (d : Nat) (x1 x2 x3 x4 s0 : Int) (B : qB) (Q : qO → qB → Prop) : Prop := R32 s0 ∧ (¬ s0 = 0 → r_match_74 m h0 d x1 x2 x3 x4 B Q) ∧ (s0 = 0 → qZ m h0 d k_refuse 0 [some (.ref m), some (iv 3)] [] B (fun o B' => ∃ v : Int, o = .inl (some (iv v)) ∧ r_match_73 m h0 d v B' Q))
theorem r_match_65_ok {m : Nat} {h0 : qH} {d : Nat} {x1 x2 x3 x4 s0 : Int} {B : qB} {Q : qO → qB → Prop} (hm : m + 100 < 1000000000) (w : r_match_65 m h0 d x1 x2 x3 x4 s0 B Q) : qZ m h0 (d + 1) k_match 65 [some (.ref m), some (iv x1), some (iv x2), some (iv x3), some (iv x4), none, none] [iv s0] B Q := by
  unfold r_match_65 at w
  obtain ⟨p1, w⟩ := w
  refine z_ifz (t := 74) (ck_at dt_match 37 rfl) rfl p1 ?_ ?_
  · intro q; have w := w.1 q
    exact z_wk (r_match_74_ok hm w) ⟨rfl, ⟨rfl, ⟨rfl, ⟨rfl, ⟨rfl, trivial⟩⟩⟩⟩⟩
  · intro q; have w := w.2 q
    refine z_ldk (ok := q_isA) (n := 0) (ck_at dt_match 38 rfl) rfl rfl (fun _ => rfl) rfl rfl ?_
    refine z_op (ck_at dt_match 39 rfl) rfl (o_const _) ?_
    refine z_virt (k' := k_refuse) (n := 0) (as := [iv 3]) (r := []) (ck_at dt_match 40 rfl) own_match (mm_at 0 rfl) vk_refuse rfl nl_refuse rfl rfl rfl rfl ?_
    exact w.mono (Nat.le_refl _) (fun o B' ⟨v, ho, w⟩ => ⟨some (iv v), ho, z_wk (r_match_73_ok hm w) trivial⟩)
def r_match_48 (m : Nat) (h0 : qH) (d : Nat) (s0 : Int) (B : qB) (Q : qO → qB → Prop) : Prop := Q (.inl (some (iv s0))) B
theorem r_match_48_ok {m : Nat} {h0 : qH} {d : Nat} {s0 : Int} {B : qB} {Q : qO → qB → Prop} (hm : m + 100 < 1000000000) (w : r_match_48 m h0 d s0 B Q) : qZ m h0 (d + 1) k_match 48 [none, none, none, none, none, none, none] [iv s0] B Q := by
  unfold r_match_48 at w
  exact z_retI (ck_at dt_match 27 rfl) rt_match w
def r_match_33 (m : Nat) (h0 : qH) (d : Nat) (s0 : Int) (B : qB) (Q : qO → qB → Prop) : Prop := Q (.inl (some (iv s0))) B
theorem r_match_33_ok {m : Nat} {h0 : qH} {d : Nat} {s0 : Int} {B : qB} {Q : qO → qB → Prop} (hm : m + 100 < 1000000000) (w : r_match_33 m h0 d s0 B Q) : qZ m h0 (d + 1) k_match 33 [none, none, none, none, none, none, none] [iv s0] B Q := by
  unfold r_match_33 at w
  exact z_retI (ck_at dt_match 18 rfl) rt_match w
def r_match_28 (m : Nat) (h0 : qH) (d : Nat) (B : qB) (Q : qO → qB → Prop) : Prop := qZ m h0 d k_refuse 0 [some (.ref m), some (iv 1)] [] B (fun o B' => ∃ v : Int, o = .inl (some (iv v)) ∧ r_match_33 m h0 d v B' Q)
theorem r_match_28_ok {m : Nat} {h0 : qH} {d : Nat} {B : qB} {Q : qO → qB → Prop} (hm : m + 100 < 1000000000) (w : r_match_28 m h0 d B Q) : qZ m h0 (d + 1) k_match 28 [some (.ref m), none, none, none, none, none, none] [] B Q := by
  unfold r_match_28 at w
  refine z_ldk (ok := q_isA) (n := 0) (ck_at dt_match 15 rfl) rfl rfl (fun _ => rfl) rfl rfl ?_
  refine z_op (ck_at dt_match 16 rfl) rfl (o_const _) ?_
  refine z_virt (k' := k_refuse) (n := 0) (as := [iv 1]) (r := []) (ck_at dt_match 17 rfl) own_match (mm_at 0 rfl) vk_refuse rfl nl_refuse rfl rfl rfl rfl ?_
  exact w.mono (Nat.le_refl _) (fun o B' ⟨v, ho, w⟩ => ⟨some (iv v), ho, z_wk (r_match_33_ok hm w) trivial⟩)
def r_match_25 (m : Nat) (h0 : qH) (d : Nat) (x1 x2 x3 x4 s0 : Int) (B : qB) (Q : qO → qB → Prop) : Prop := R32 s0 ∧ (¬ s0 = 0 → 0 ≤ x1 ∧ x1 < 8 ∧ R32 (B 6 x1) ∧ (¬ B 6 x1 = 0 → R32 x3 ∧ (x3 ≤ 0 → r_match_74 m h0 d x1 x2 x3 x4 B Q) ∧ (x3 > 0 → 0 ≤ x2 ∧ x2 < 4 ∧ qZ m h0 d k_in 0 [some (iv x4), some (iv 0), some (iv (B 9 x2))] [] B (fun o B' => ∃ v : Int, o = .inl (some (iv v)) ∧ r_match_65 m h0 d x1 x2 x3 x4 v B' Q))) ∧ (B 6 x1 = 0 → qZ m h0 d k_refuse 0 [some (.ref m), some (iv 2)] [] B (fun o B' => ∃ v : Int, o = .inl (some (iv v)) ∧ r_match_48 m h0 d v B' Q))) ∧ (s0 = 0 → r_match_28 m h0 d B Q)
theorem r_match_25_ok {m : Nat} {h0 : qH} {d : Nat} {x1 x2 x3 x4 s0 : Int} {B : qB} {Q : qO → qB → Prop} (hm : m + 100 < 1000000000) (w : r_match_25 m h0 d x1 x2 x3 x4 s0 B Q) : qZ m h0 (d + 1) k_match 25 [some (.ref m), some (iv x1), some (iv x2), some (iv x3), some (iv x4), none, none] [iv s0] B Q := by
  unfold r_match_25 at w
  obtain ⟨p1, w⟩ := w
  refine z_ifz (t := 34) (ck_at dt_match 14 rfl) rfl p1 ?_ ?_
  · intro q; have w := w.1 q
    obtain ⟨p2, p3, p4, w⟩ := w
    refine z_ldk (ok := q_isA) (n := 0) (ck_at dt_match 19 rfl) rfl rfl (fun _ => rfl) rfl rfl ?_
    refine z_getR (j := 6) (a := 3) (ck_at dt_match 20 rfl) own_match (mf_at 4 rfl) (by decide) rfl rfl ?_
    refine z_ldk (ok := q_isI) (n := 1) (ck_at dt_match 21 rfl) rfl rfl (fun _ => rfl) rfl rfl ?_
    refine z_iald (j := 6) (n := 8) (ck_at dt_match 22 rfl) rfl rfl rfl p2 p3 ?_
    refine z_ifz (t := 49) (ck_at dt_match 23 rfl) rfl p4 ?_ ?_
    · intro q; have w := w.1 q
      obtain ⟨p5, w⟩ := w
      refine z_ldk (ok := q_isI) (n := 3) (ck_at dt_match 28 rfl) rfl rfl (fun _ => rfl) rfl rfl ?_
      refine z_ifz (t := 74) (ck_at dt_match 29 rfl) rfl p5 ?_ ?_
      · intro q; have w := w.1 q
        exact z_wk (r_match_74_ok hm w) ⟨rfl, ⟨rfl, ⟨rfl, ⟨rfl, ⟨rfl, trivial⟩⟩⟩⟩⟩
      · intro q; have w := w.2 q
        obtain ⟨p6, p7, w⟩ := w
        refine z_ldk (ok := q_isI) (n := 4) (ck_at dt_match 30 rfl) rfl rfl (fun _ => rfl) rfl rfl ?_
        refine z_op (ck_at dt_match 31 rfl) rfl (o_const _) ?_
        refine z_ldk (ok := q_isA) (n := 0) (ck_at dt_match 32 rfl) rfl rfl (fun _ => rfl) rfl rfl ?_
        refine z_getR (j := 9) (a := 6) (ck_at dt_match 33 rfl) own_match (mf_at 7 rfl) (by decide) rfl rfl ?_
        refine z_ldk (ok := q_isI) (n := 2) (ck_at dt_match 34 rfl) rfl rfl (fun _ => rfl) rfl rfl ?_
        refine z_iald (j := 9) (n := 4) (ck_at dt_match 35 rfl) rfl rfl rfl p6 p7 ?_
        refine z_stat (k' := k_in) (n := 0) (as := [iv x4, iv 0, iv (B 9 x2)]) (r := []) (ck_at dt_match 36 rfl) own_match (mm_at 2 rfl) (ms_at 0 rfl) vk_in rfl nl_in rfl rfl rfl rfl ?_
        exact w.mono (Nat.le_refl _) (fun o B' ⟨v, ho, w⟩ => ⟨some (iv v), ho, z_wk (r_match_65_ok hm w) ⟨rfl, ⟨rfl, ⟨rfl, ⟨rfl, ⟨rfl, trivial⟩⟩⟩⟩⟩⟩)
    · intro q; have w := w.2 q
      refine z_ldk (ok := q_isA) (n := 0) (ck_at dt_match 24 rfl) rfl rfl (fun _ => rfl) rfl rfl ?_
      refine z_op (ck_at dt_match 25 rfl) rfl (o_const _) ?_
      refine z_virt (k' := k_refuse) (n := 0) (as := [iv 2]) (r := []) (ck_at dt_match 26 rfl) own_match (mm_at 0 rfl) vk_refuse rfl nl_refuse rfl rfl rfl rfl ?_
      exact w.mono (Nat.le_refl _) (fun o B' ⟨v, ho, w⟩ => ⟨some (iv v), ho, z_wk (r_match_48_ok hm w) trivial⟩)
  · intro q; have w := w.2 q
    exact z_wk (r_match_28_ok hm w) ⟨rfl, trivial⟩
def r_match_16 (m : Nat) (h0 : qH) (d : Nat) (x1 x2 x3 x4 s0 : Int) (B : qB) (Q : qO → qB → Prop) : Prop := R32 s0 ∧ (s0 = 0 → r_match_28 m h0 d B Q) ∧ (¬ s0 = 0 → qZ m h0 d k_in 0 [some (iv x3), some (iv 0), some (iv 2)] [] B (fun o B' => ∃ v : Int, o = .inl (some (iv v)) ∧ r_match_25 m h0 d x1 x2 x3 x4 v B' Q))
theorem r_match_16_ok {m : Nat} {h0 : qH} {d : Nat} {x1 x2 x3 x4 s0 : Int} {B : qB} {Q : qO → qB → Prop} (hm : m + 100 < 1000000000) (w : r_match_16 m h0 d x1 x2 x3 x4 s0 B Q) : qZ m h0 (d + 1) k_match 16 [some (.ref m), some (iv x1), some (iv x2), some (iv x3), some (iv x4), none, none] [iv s0] B Q := by
  unfold r_match_16 at w
  obtain ⟨p1, w⟩ := w
  refine z_ifz (t := 28) (ck_at dt_match 9 rfl) rfl p1 ?_ ?_
  · intro q; have w := w.1 q
    exact z_wk (r_match_28_ok hm w) ⟨rfl, trivial⟩
  · intro q; have w := w.2 q
    refine z_ldk (ok := q_isI) (n := 3) (ck_at dt_match 10 rfl) rfl rfl (fun _ => rfl) rfl rfl ?_
    refine z_op (ck_at dt_match 11 rfl) rfl (o_const _) ?_
    refine z_op (ck_at dt_match 12 rfl) rfl (o_const _) ?_
    refine z_stat (k' := k_in) (n := 0) (as := [iv x3, iv 0, iv 2]) (r := []) (ck_at dt_match 13 rfl) own_match (mm_at 2 rfl) (ms_at 0 rfl) vk_in rfl nl_in rfl rfl rfl rfl ?_
    exact w.mono (Nat.le_refl _) (fun o B' ⟨v, ho, w⟩ => ⟨some (iv v), ho, z_wk (r_match_25_ok hm w) ⟨rfl, ⟨rfl, ⟨rfl, ⟨rfl, ⟨rfl, trivial⟩⟩⟩⟩⟩⟩)
def r_match_7 (m : Nat) (h0 : qH) (d : Nat) (x1 x2 x3 x4 s0 : Int) (B : qB) (Q : qO → qB → Prop) : Prop := R32 s0 ∧ (s0 = 0 → r_match_28 m h0 d B Q) ∧ (¬ s0 = 0 → qZ m h0 d k_in 0 [some (iv x2), some (iv 0), some (iv 3)] [] B (fun o B' => ∃ v : Int, o = .inl (some (iv v)) ∧ r_match_16 m h0 d x1 x2 x3 x4 v B' Q))
theorem r_match_7_ok {m : Nat} {h0 : qH} {d : Nat} {x1 x2 x3 x4 s0 : Int} {B : qB} {Q : qO → qB → Prop} (hm : m + 100 < 1000000000) (w : r_match_7 m h0 d x1 x2 x3 x4 s0 B Q) : qZ m h0 (d + 1) k_match 7 [some (.ref m), some (iv x1), some (iv x2), some (iv x3), some (iv x4), none, none] [iv s0] B Q := by
  unfold r_match_7 at w
  obtain ⟨p1, w⟩ := w
  refine z_ifz (t := 28) (ck_at dt_match 4 rfl) rfl p1 ?_ ?_
  · intro q; have w := w.1 q
    exact z_wk (r_match_28_ok hm w) ⟨rfl, trivial⟩
  · intro q; have w := w.2 q
    refine z_ldk (ok := q_isI) (n := 2) (ck_at dt_match 5 rfl) rfl rfl (fun _ => rfl) rfl rfl ?_
    refine z_op (ck_at dt_match 6 rfl) rfl (o_const _) ?_
    refine z_op (ck_at dt_match 7 rfl) rfl (o_const _) ?_
    refine z_stat (k' := k_in) (n := 0) (as := [iv x2, iv 0, iv 3]) (r := []) (ck_at dt_match 8 rfl) own_match (mm_at 2 rfl) (ms_at 0 rfl) vk_in rfl nl_in rfl rfl rfl rfl ?_
    exact w.mono (Nat.le_refl _) (fun o B' ⟨v, ho, w⟩ => ⟨some (iv v), ho, z_wk (r_match_16_ok hm w) ⟨rfl, ⟨rfl, ⟨rfl, ⟨rfl, ⟨rfl, trivial⟩⟩⟩⟩⟩⟩)
def r_match_0 (m : Nat) (h0 : qH) (d : Nat) (x1 x2 x3 x4 : Int) (B : qB) (Q : qO → qB → Prop) : Prop := qZ m h0 d k_in 0 [some (iv x1), some (iv 0), some (iv 7)] [] B (fun o B' => ∃ v : Int, o = .inl (some (iv v)) ∧ r_match_7 m h0 d x1 x2 x3 x4 v B' Q)
theorem r_match_0_ok {m : Nat} {h0 : qH} {d : Nat} {x1 x2 x3 x4 : Int} {B : qB} {Q : qO → qB → Prop} (hm : m + 100 < 1000000000) (w : r_match_0 m h0 d x1 x2 x3 x4 B Q) : qZ m h0 (d + 1) k_match 0 [some (.ref m), some (iv x1), some (iv x2), some (iv x3), some (iv x4), none, none] [] B Q := by
  unfold r_match_0 at w
  refine z_ldk (ok := q_isI) (n := 1) (ck_at dt_match 0 rfl) rfl rfl (fun _ => rfl) rfl rfl ?_
  refine z_op (ck_at dt_match 1 rfl) rfl (o_const _) ?_
  refine z_op (ck_at dt_match 2 rfl) rfl (o_bipush _ (by decide)) ?_
  refine z_stat (k' := k_in) (n := 0) (as := [iv x1, iv 0, iv 7]) (r := []) (ck_at dt_match 3 rfl) own_match (mm_at 2 rfl) (ms_at 0 rfl) vk_in rfl nl_in rfl rfl rfl rfl ?_
  exact w.mono (Nat.le_refl _) (fun o B' ⟨v, ho, w⟩ => ⟨some (iv v), ho, z_wk (r_match_7_ok hm w) ⟨rfl, ⟨rfl, ⟨rfl, ⟨rfl, ⟨rfl, trivial⟩⟩⟩⟩⟩⟩)
/-! nextMatch(I)Z -/
def t_nextMatch : List (Nat × Instr × Nat) := [(0, .iload_n 1, 1), (1, .istore_n 2, 1), (2, .iload_n 2, 1), (3, .aload_n 0, 1), (4, .getfield 324, 3), (7, .if_icmp .gt 58, 3), (10, .aload_n 0, 1), (11, .iload_n 2, 1), (12, .invokevirtual 386, 3), (15, .istore_n 3, 1), (16, .iload_n 3, 1), (17, .ifCond .ge 6, 3), (20, .goto 39, 3), (23, .aload_n 0, 1), (24, .getfield 41, 3), (27, .aload_n 0, 1), (28, .getfield 392, 3), (31, .iload_n 2, 1), (32, .iastore, 1), (33, .aload_n 0, 1), (34, .getfield 44, 3), (37, .aload_n 0, 1), (38, .getfield 392, 3), (41, .iload_n 3, 1), (42, .iastore, 1), (43, .aload_n 0, 1), (44, .dup, 1), (45, .getfield 392, 3), (48, .iconst 1, 1), (49, .iadd, 1), (50, .putfield 392, 3), (53, .aload_n 0, 1), (54, .invokevirtual 377, 3), (57, .iconst 1, 1), (58, .ireturn, 1), (59, .iinc 2 1, 3), (62, .goto (-60), 3), (65, .iconst 0, 1), (66, .ireturn, 1)]
set_option maxRecDepth 100000 in
theorem dt_nextMatch : q_ck k_nextMatch t_nextMatch = true := by decide +kernel
def r_nextMatch_57 (m : Nat) (h0 : qH) (d : Nat) (B : qB) (Q : qO → qB → Prop) : Prop := Q (.inl (some (iv 1))) B
theorem r_nextMatch_57_ok {m : Nat} {h0 : qH} {d : Nat} {B : qB} {Q : qO → qB → Prop} (hm : m + 100 < 1000000000) (w : r_nextMatch_57 m h0 d B Q) : qZ m h0 (d + 1) k_nextMatch 57 [none, none, none, none] [] B Q := by
  unfold r_nextMatch_57 at w
  refine z_op (ck_at dt_nextMatch 33 rfl) rfl (o_const _) ?_
  exact z_retZ (ck_at dt_nextMatch 34 rfl) rt_nextMatch (by decide) w
def r_nextMatch_15 (m : Nat) (h0 : qH) (d : Nat) (x2 s0 : Int) (B : qB) (Q : qO → qB → Prop) : Prop := R32 s0 ∧ (s0 ≥ 0 → 0 ≤ B 72 0 ∧ B 72 0 < 1001 ∧ qZ m h0 d k_newSearch 0 [some (.ref m)] [] (u2 (u2 (u2 B 12 (B 72 0) x2) 13 (B 72 0) s0) 72 0 ((B 72 0) + 1)) (fun o B' => o = .inl none ∧ r_nextMatch_57 m h0 d B' Q)) ∧ (s0 < 0 → qZ m h0 (d + 1) k_nextMatch 2 [some (.ref m), none, some (iv (x2 + 1)), none] [] B Q)
theorem r_nextMatch_15_ok {m : Nat} {h0 : qH} {d : Nat} {x2 s0 : Int} {B : qB} {Q : qO → qB → Prop} (hm : m + 100 < 1000000000) (w : r_nextMatch_15 m h0 d x2 s0 B Q) : qZ m h0 (d + 1) k_nextMatch 15 [some (.ref m), none, some (iv x2), none] [iv s0] B Q := by
  unfold r_nextMatch_15 at w
  obtain ⟨p1, w⟩ := w
  refine z_st1 (ok := q_isI) (n := 3) (L' := [some (.ref m), none, some (iv x2), some (iv s0)]) (ck_at dt_nextMatch 9 rfl) rfl (fun _ => rfl) (fun _ _ => rfl) rfl nl_nextMatch (by decide) rfl rfl ?_
  refine z_ldk (ok := q_isI) (n := 3) (ck_at dt_nextMatch 10 rfl) rfl rfl (fun _ => rfl) rfl rfl ?_
  refine z_ifz (t := 23) (ck_at dt_nextMatch 11 rfl) rfl p1 ?_ ?_
  · intro q; have w := w.1 q
    obtain ⟨p2, p3, w⟩ := w
    refine z_ldk (ok := q_isA) (n := 0) (ck_at dt_nextMatch 13 rfl) rfl rfl (fun _ => rfl) rfl rfl ?_
    refine z_getR (j := 12) (a := 9) (ck_at dt_nextMatch 14 rfl) own_nextMatch (mf_at 10 rfl) (by decide) rfl rfl ?_
    refine z_ldk (ok := q_isA) (n := 0) (ck_at dt_nextMatch 15 rfl) rfl rfl (fun _ => rfl) rfl rfl ?_
    refine z_getI (j := 72) (ck_at dt_nextMatch 16 rfl) own_nextMatch (mf_at 72 rfl) (by decide) rfl ?_
    refine z_ldk (ok := q_isI) (n := 2) (ck_at dt_nextMatch 17 rfl) rfl rfl (fun _ => rfl) rfl rfl ?_
    refine z_iast (j := 12) (n := 1001) hm (ck_at dt_nextMatch 18 rfl) rfl rfl rfl p2 p3 ?_
    refine z_ldk (ok := q_isA) (n := 0) (ck_at dt_nextMatch 19 rfl) rfl rfl (fun _ => rfl) rfl rfl ?_
    refine z_getR (j := 13) (a := 10) (ck_at dt_nextMatch 20 rfl) own_nextMatch (mf_at 11 rfl) (by decide) rfl rfl ?_
    refine z_ldk (ok := q_isA) (n := 0) (ck_at dt_nextMatch 21 rfl) rfl rfl (fun _ => rfl) rfl rfl ?_
    refine z_getI (j := 72) (ck_at dt_nextMatch 22 rfl) own_nextMatch (mf_at 72 rfl) (by decide) rfl ?_
    refine z_ldk (ok := q_isI) (n := 3) (ck_at dt_nextMatch 23 rfl) rfl rfl (fun _ => rfl) rfl rfl ?_
    refine z_iast (j := 13) (n := 1001) hm (ck_at dt_nextMatch 24 rfl) rfl rfl rfl p2 p3 ?_
    refine z_ldk (ok := q_isA) (n := 0) (ck_at dt_nextMatch 25 rfl) rfl rfl (fun _ => rfl) rfl rfl ?_
    refine z_op (ck_at dt_nextMatch 26 rfl) rfl rfl ?_
    refine z_getI (j := 72) (ck_at dt_nextMatch 27 rfl) own_nextMatch (mf_at 72 rfl) (by decide) rfl ?_
    refine z_op (ck_at dt_nextMatch 28 rfl) rfl (o_const _) ?_
    refine z_op (ck_at dt_nextMatch 29 rfl) rfl o_iadd ?_
    refine z_putI (j := 72) hm (ck_at dt_nextMatch 30 rfl) own_nextMatch (mf_at 72 rfl) (by decide) rfl rfl rfl ?_
    refine z_ldk (ok := q_isA) (n := 0) (ck_at dt_nextMatch 31 rfl) rfl rfl (fun _ => rfl) rfl rfl ?_
    refine z_virt (k' := k_newSearch) (n := 0) (as := []) (r := []) (ck_at dt_nextMatch 32 rfl) own_nextMatch (mm_at 31 rfl) vk_newSearch rfl nl_newSearch rfl rfl rfl rfl ?_
    exact w.mono (Nat.le_refl _) (fun o B' ⟨ho, w⟩ => ⟨none, ho, z_wk (r_nextMatch_57_ok hm w) trivial⟩)
  · intro q; have w := w.2 q
    refine z_goto (t := 59) (ck_at dt_nextMatch 12 rfl) rfl ?_
    refine z_iinc (n := 2) (L' := [some (.ref m), none, some (iv (x2 + 1)), some (iv s0)]) (ck_at dt_nextMatch 35 rfl) rfl nl_nextMatch (by decide) trivial rfl ?_
    refine z_goto (t := 2) (ck_at dt_nextMatch 36 rfl) rfl ?_
    exact z_wk w ⟨rfl, ⟨rfl, trivial⟩⟩
def r_nextMatch_2 (m : Nat) (h0 : qH) (d : Nat) (x2 : Int) (B : qB) (Q : qO → qB → Prop) : Prop := R32 x2 ∧ R32 (B 57 0) ∧ (x2 > B 57 0 → Q (.inl (some (iv 0))) B) ∧ (x2 ≤ B 57 0 → qZ m h0 d k_tryAt 0 [some (.ref m), some (iv x2), none] [] B (fun o B' => ∃ v : Int, o = .inl (some (iv v)) ∧ r_nextMatch_15 m h0 d x2 v B' Q))
theorem r_nextMatch_2_ok {m : Nat} {h0 : qH} {d : Nat} {x2 : Int} {B : qB} {Q : qO → qB → Prop} (hm : m + 100 < 1000000000) (w : r_nextMatch_2 m h0 d x2 B Q) : qZ m h0 (d + 1) k_nextMatch 2 [some (.ref m), none, some (iv x2), none] [] B Q := by
  unfold r_nextMatch_2 at w
  obtain ⟨p1, p2, w⟩ := w
  refine z_ldk (ok := q_isI) (n := 2) (ck_at dt_nextMatch 2 rfl) rfl rfl (fun _ => rfl) rfl rfl ?_
  refine z_ldk (ok := q_isA) (n := 0) (ck_at dt_nextMatch 3 rfl) rfl rfl (fun _ => rfl) rfl rfl ?_
  refine z_getI (j := 57) (ck_at dt_nextMatch 4 rfl) own_nextMatch (mf_at 66 rfl) (by decide) rfl ?_
  refine z_icmp (t := 65) (ck_at dt_nextMatch 5 rfl) rfl p1 p2 ?_ ?_
  · intro q; have w := w.1 q
    refine z_op (ck_at dt_nextMatch 37 rfl) rfl (o_const _) ?_
    exact z_retZ (ck_at dt_nextMatch 38 rfl) rt_nextMatch (by decide) w
  · intro q; have w := w.2 q
    refine z_ldk (ok := q_isA) (n := 0) (ck_at dt_nextMatch 6 rfl) rfl rfl (fun _ => rfl) rfl rfl ?_
    refine z_ldk (ok := q_isI) (n := 2) (ck_at dt_nextMatch 7 rfl) rfl rfl (fun _ => rfl) rfl rfl ?_
    refine z_virt (k' := k_tryAt) (n := 1) (as := [iv x2]) (r := []) (ck_at dt_nextMatch 8 rfl) own_nextMatch (mm_at 27 rfl) vk_tryAt rfl nl_tryAt rfl rfl rfl rfl ?_
    exact w.mono (Nat.le_refl _) (fun o B' ⟨v, ho, w⟩ => ⟨some (iv v), ho, z_wk (r_nextMatch_15_ok hm w) ⟨rfl, ⟨rfl, trivial⟩⟩⟩)
def r_nextMatch_0 (m : Nat) (h0 : qH) (d : Nat) (x1 : Int) (B : qB) (Q : qO → qB → Prop) : Prop := qZ m h0 (d + 1) k_nextMatch 2 [some (.ref m), none, some (iv x1), none] [] B Q
theorem r_nextMatch_0_ok {m : Nat} {h0 : qH} {d : Nat} {x1 : Int} {B : qB} {Q : qO → qB → Prop} (hm : m + 100 < 1000000000) (w : r_nextMatch_0 m h0 d x1 B Q) : qZ m h0 (d + 1) k_nextMatch 0 [some (.ref m), some (iv x1), none, none] [] B Q := by
  unfold r_nextMatch_0 at w
  refine z_ldk (ok := q_isI) (n := 1) (ck_at dt_nextMatch 0 rfl) rfl rfl (fun _ => rfl) rfl rfl ?_
  refine z_st1 (ok := q_isI) (n := 2) (L' := [some (.ref m), some (iv x1), some (iv x1), none]) (ck_at dt_nextMatch 1 rfl) rfl (fun _ => rfl) (fun _ _ => rfl) rfl nl_nextMatch (by decide) rfl rfl ?_
  exact z_wk w ⟨rfl, ⟨rfl, trivial⟩⟩
/-! behindLast()I -/
def t_behindLast : List (Nat × Instr × Nat) := [(0, .aload_n 0, 1), (1, .getfield 44, 3), (4, .aload_n 0, 1), (5, .getfield 392, 3), (8, .iconst 1, 1), (9, .isub, 1), (10, .iaload, 1), (11, .aload_n 0, 1), (12, .getfield 44, 3), (15, .aload_n 0, 1), (16, .getfield 392, 3), (19, .iconst 1, 1), (20, .isub, 1), (21, .iaload, 1), (22, .aload_n 0, 1), (23, .getfield 41, 3), (26, .aload_n 0, 1), (27, .getfield 392, 3), (30, .iconst 1, 1), (31, .isub, 1), (32, .iaload, 1), (33, .if_icmp .ne 7, 3), (36, .iconst 1, 1), (37, .goto 4, 3), (40, .iconst 0, 1), (41, .iadd, 1), (42, .ireturn, 1)]
set_option maxRecDepth 100000 in
theorem dt_behindLast : q_ck k_behindLast t_behindLast = true := by decide +kernel
def r_behindLast_0 (m : Nat) (h0 : qH) (d : Nat) (B : qB) (Q : qO → qB → Prop) : Prop := 0 ≤ (B 72 0) - 1 ∧ (B 72 0) - 1 < 1001 ∧ R32 (B 13 ((B 72 0) - 1)) ∧ R32 (B 12 ((B 72 0) - 1)) ∧ (¬ B 13 ((B 72 0) - 1) = B 12 ((B 72 0) - 1) → Q (.inl (some (iv ((B 13 ((B 72 0) - 1)) + 0)))) B) ∧ (B 13 ((B 72 0) - 1) = B 12 ((B 72 0) - 1) → Q (.inl (some (iv ((B 13 ((B 72 0) - 1)) + 1)))) B)
theorem r_behindLast_0_ok {m : Nat} {h0 : qH} {d : Nat} {B : qB} {Q : qO → qB → Prop} (hm : m + 100 < 1000000000) (w : r_behindLast_0 m h0 d B Q) : qZ m h0 (d + 1) k_behindLast 0 [some (.ref m)] [] B Q := by
  unfold r_behindLast_0 at w
  obtain ⟨p1, p2, p3, p4, w⟩ := w
  refine z_ldk (ok := q_isA) (n := 0) (ck_at dt_behindLast 0 rfl) rfl rfl (fun _ => rfl) rfl rfl ?_
  refine z_getR (j := 13) (a := 10) (ck_at dt_behindLast 1 rfl) own_behindLast (mf_at 11 rfl) (by decide) rfl rfl ?_
  refine z_ldk (ok := q_isA) (n := 0) (ck_at dt_behindLast 2 rfl) rfl rfl (fun _ => rfl) rfl rfl ?_
  refine z_getI (j := 72) (ck_at dt_behindLast 3 rfl) own_behindLast (mf_at 72 rfl) (by decide) rfl ?_
  refine z_op (ck_at dt_behindLast 4 rfl) rfl (o_const _) ?_
  refine z_op (ck_at dt_behindLast 5 rfl) rfl o_isub ?_
  refine z_iald (j := 13) (n := 1001) (ck_at dt_behindLast 6 rfl) rfl rfl rfl p1 p2 ?_
  refine z_ldk (ok := q_isA) (n := 0) (ck_at dt_behindLast 7 rfl) rfl rfl (fun _ => rfl) rfl rfl ?_
  refine z_getR (j := 13) (a := 10) (ck_at dt_behindLast 8 rfl) own_behindLast (mf_at 11 rfl) (by decide) rfl rfl ?_
  refine z_ldk (ok := q_isA) (n := 0) (ck_at dt_behindLast 9 rfl) rfl rfl (fun _ => rfl) rfl rfl ?_
  refine z_getI (j := 72) (ck_at dt_behindLast 10 rfl) own_behindLast (mf_at 72 rfl) (by decide) rfl ?_
  refine z_op (ck_at dt_behindLast 11 rfl) rfl (o_const _) ?_
  refine z_op (ck_at dt_behindLast 12 rfl) rfl o_isub ?_
  refine z_iald (j := 13) (n := 1001) (ck_at dt_behindLast 13 rfl) rfl rfl rfl p1 p2 ?_
  refine z_ldk (ok := q_isA) (n := 0) (ck_at dt_behindLast 14 rfl) rfl rfl (fun _ => rfl) rfl rfl ?_
  refine z_getR (j := 12) (a := 9) (ck_at dt_behindLast 15 rfl) own_behindLast (mf_at 10 rfl) (by decide) rfl rfl ?_
  refine z_ldk (ok := q_isA) (n := 0) (ck_at dt_behindLast 16 rfl) rfl rfl (fun _ => rfl) rfl rfl ?_
  refine z_getI (j := 72) (ck_at dt_behindLast 17 rfl) own_behindLast (mf_at 72 rfl) (by decide) rfl ?_
  refine z_op (ck_at dt_behindLast 18 rfl) rfl (o_const _) ?_
  refine z_op (ck_at dt_behindLast 19 rfl) rfl o_isub ?_
  refine z_iald (j := 12) (n := 1001) (ck_at dt_behindLast 20 rfl) rfl rfl rfl p1 p2 ?_
  refine z_icmp (t := 40) (ck_at dt_behindLast 21 rfl) rfl p3 p4 ?_ ?_
  · intro q; have w := w.1 q
    refine z_op (ck_at dt_behindLast 24 rfl) rfl (o_const _) ?_
    refine z_op (ck_at dt_behindLast 25 rfl) rfl o_iadd ?_
    exact z_retI (ck_at dt_behindLast 26 rfl) rt_behindLast w
  · intro q; have w := w.2 q
    refine z_op (ck_at dt_behindLast 22 rfl) rfl (o_const _) ?_
    refine z_goto (t := 41) (ck_at dt_behindLast 23 rfl) rfl ?_
    refine z_op (ck_at dt_behindLast 25 rfl) rfl o_iadd ?_
    exact z_retI (ck_at dt_behindLast 26 rfl) rt_behindLast w
/-! keepFound()V -/
def t_keepFound : List (Nat × Instr × Nat) := [(0, .aload_n 0, 1), (1, .aload_n 0, 1), (2, .getfield 392, 3), (5, .putfield 395, 3), (8, .iconst 0, 1), (9, .istore_n 1, 1), (10, .iload_n 1, 1), (11, .aload_n 0, 1), (12, .getfield 395, 3), (15, .if_icmp .ge 33, 3), (18, .aload_n 0, 1), (19, .getfield 35, 3), (22, .iload_n 1, 1), (23, .aload_n 0, 1), (24, .getfield 41, 3), (27, .iload_n 1, 1), (28, .iaload, 1), (29, .iastore, 1), (30, .aload_n 0, 1), (31, .getfield 38, 3), (34, .iload_n 1, 1), (35, .aload_n 0, 1), (36, .getfield 44, 3), (39, .iload_n 1, 1), (40, .iaload, 1), (41, .iastore, 1), (42, .iinc 1 1, 3), (45, .goto (-35), 3), (48, .return_, 1)]
set_option maxRecDepth 100000 in
theorem dt_keepFound : q_ck k_keepFound t_keepFound = true := by decide +kernel
def r_keepFound_10 (m : Nat) (h0 : qH) (d : Nat) (x1 : Int) (B : qB) (Q : qO → qB → Prop) : Prop := R32 x1 ∧ R32 (B 14 0) ∧ (x1 ≥ B 14 0 → Q (.inl none) B) ∧ (x1 < B 14 0 → 0 ≤ x1 ∧ x1 < 1001 ∧ qZ m h0 (d + 1) k_keepFound 10 [some (.ref m), some (iv (x1 + 1))] [] (u2 (u2 B 10 x1 (B 12 x1)) 11 x1 (B 13 x1)) Q)
theorem r_keepFound_10_ok {m : Nat} {h0 : qH} {d : Nat} {x1 : Int} {B : qB} {Q : qO → qB → Prop} (hm : m + 100 < 1000000000) (w : r_keepFound_10 m h0 d x1 B Q) : qZ m h0 (d + 1) k_keepFound 10 [some (.ref m), some (iv x1)] [] B Q := by
  unfold r_keepFound_10 at w
  obtain ⟨p1, p2, w⟩ := w
  refine z_ldk (ok := q_isI) (n := 1) (ck_at dt_keepFound 6 rfl) rfl rfl (fun _ => rfl) rfl rfl ?_
  refine z_ldk (ok := q_isA) (n := 0) (ck_at dt_keepFound 7 rfl) rfl rfl (fun _ => rfl) rfl rfl ?_
  refine z_getI (j := 14) (ck_at dt_keepFound 8 rfl) own_keepFound (mf_at 73 rfl) (by decide) rfl ?_
  refine z_icmp (t := 48) (ck_at dt_keepFound 9 rfl) rfl p1 p2 ?_ ?_
  · intro q; have w := w.1 q
    exact z_ret0 (ck_at dt_keepFound 28 rfl) rt_keepFound w
  · intro q; have w := w.2 q
    obtain ⟨p3, p4, w⟩ := w
    refine z_ldk (ok := q_isA) (n := 0) (ck_at dt_keepFound 10 rfl) rfl rfl (fun _ => rfl) rfl rfl ?_
    refine z_getR (j := 10) (a := 7) (ck_at dt_keepFound 11 rfl) own_keepFound (mf_at 8 rfl) (by decide) rfl rfl ?_
    refine z_ldk (ok := q_isI) (n := 1) (ck_at dt_keepFound 12 rfl) rfl rfl (fun _ => rfl) rfl rfl ?_
    refine z_ldk (ok := q_isA) (n := 0) (ck_at dt_keepFound 13 rfl) rfl rfl (fun _ => rfl) rfl rfl ?_
    refine z_getR (j := 12) (a := 9) (ck_at dt_keepFound 14 rfl) own_keepFound (mf_at 10 rfl) (by decide) rfl rfl ?_
    refine z_ldk (ok := q_isI) (n := 1) (ck_at dt_keepFound 15 rfl) rfl rfl (fun _ => rfl) rfl rfl ?_
    refine z_iald (j := 12) (n := 1001) (ck_at dt_keepFound 16 rfl) rfl rfl rfl p3 p4 ?_
    refine z_iast (j := 10) (n := 1001) hm (ck_at dt_keepFound 17 rfl) rfl rfl rfl p3 p4 ?_
    refine z_ldk (ok := q_isA) (n := 0) (ck_at dt_keepFound 18 rfl) rfl rfl (fun _ => rfl) rfl rfl ?_
    refine z_getR (j := 11) (a := 8) (ck_at dt_keepFound 19 rfl) own_keepFound (mf_at 9 rfl) (by decide) rfl rfl ?_
    refine z_ldk (ok := q_isI) (n := 1) (ck_at dt_keepFound 20 rfl) rfl rfl (fun _ => rfl) rfl rfl ?_
    refine z_ldk (ok := q_isA) (n := 0) (ck_at dt_keepFound 21 rfl) rfl rfl (fun _ => rfl) rfl rfl ?_
    refine z_getR (j := 13) (a := 10) (ck_at dt_keepFound 22 rfl) own_keepFound (mf_at 11 rfl) (by decide) rfl rfl ?_
    refine z_ldk (ok := q_isI) (n := 1) (ck_at dt_keepFound 23 rfl) rfl rfl (fun _ => rfl) rfl rfl ?_
    refine z_iald (j := 13) (n := 1001) (ck_at dt_keepFound 24 rfl) rfl rfl rfl p3 p4 ?_
    refine z_iast (j := 11) (n := 1001) hm (ck_at dt_keepFound 25 rfl) rfl rfl rfl p3 p4 ?_
    refine z_iinc (n := 1) (L' := [some (.ref m), some (iv (x1 + 1))]) (ck_at dt_keepFound 26 rfl) rfl nl_keepFound (by decide) rfl rfl ?_
    refine z_goto (t := 10) (ck_at dt_keepFound 27 rfl) rfl ?_
    exact z_wk w ⟨rfl, ⟨rfl, trivial⟩⟩
def r_keepFound_0 (m : Nat) (h0 : qH) (d : Nat) (B : qB) (Q : qO → qB → Prop) : Prop := qZ m h0 (d + 1) k_keepFound 10 [some (.ref m), some (iv 0)] [] (u2 B 14 0 (B 72 0)) Q
theorem r_keepFound_0_ok {m : Nat} {h0 : qH} {d : Nat} {B : qB} {Q : qO → qB → Prop} (hm : m + 100 < 1000000000) (w : r_keepFound_0 m h0 d B Q) : qZ m h0 (d + 1) k_keepFound 0 [some (.ref m), none] [] B Q := by
  unfold r_keepFound_0 at w
  refine z_ldk (ok := q_isA) (n := 0) (ck_at dt_keepFound 0 rfl) rfl rfl (fun _ => rfl) rfl rfl ?_
  refine z_ldk (ok := q_isA) (n := 0) (ck_at dt_keepFound 1 rfl) rfl rfl (fun _ => rfl) rfl rfl ?_
  refine z_getI (j := 72) (ck_at dt_keepFound 2 rfl) own_keepFound (mf_at 72 rfl) (by decide) rfl ?_
  refine z_putI (j := 14) hm (ck_at dt_keepFound 3 rfl) own_keepFound (mf_at 73 rfl) (by decide) rfl rfl rfl ?_
  refine z_op (ck_at dt_keepFound 4 rfl) rfl (o_const _) ?_
  refine z_st1 (ok := q_isI) (n := 1) (L' := [some (.ref m), some (iv 0)]) (ck_at dt_keepFound 5 rfl) rfl (fun _ => rfl) (fun _ _ => rfl) rfl nl_keepFound (by decide) rfl rfl ?_
  exact z_wk w ⟨rfl, ⟨rfl, trivial⟩⟩
/-! find(II)I -/
def t_find : List (Nat × Instr × Nat) := [(0, .iload_n 1, 1), (1, .iconst 0, 1), (2, .bipush 7, 2), (4, .invokestatic 170, 3), (7, .ifCond .eq 12, 3), (10, .iload_n 2, 1), (11, .iconst 0, 1), (12, .iconst 3, 1), (13, .invokestatic 170, 3), (16, .ifCond .ne 9, 3), (19, .aload_n 0, 1), (20, .iconst 1, 1), (21, .invokevirtual 162, 3), (24, .ireturn, 1), (25, .aload_n 0, 1), (26, .getfield 23, 3), (29, .iload_n 1, 1), (30, .iaload, 1), (31, .ifCond .ne 9, 3), (34, .aload_n 0, 1), (35, .iconst 2, 1), (36, .invokevirtual 162, 3), (39, .ireturn, 1), (40, .aload_n 0, 1), (41, .getfield 32, 3), (44, .iload_n 2, 1), (45, .iaload, 1), (46, .sipush 300, 3), (49, .if_icmp .le 9, 3), (52, .aload_n 0, 1), (53, .iconst 3, 1), (54, .invokevirtual 162, 3), (57, .ireturn, 1), (58, .aload_n 0, 1), (59, .iconst 0, 1), (60, .putfield 156, 3), (63, .aload_n 0, 1), (64, .iload_n 1, 1), (65, .iload_n 2, 1), (66, .invokevirtual 383, 3), (69, .aload_n 0, 1), (70, .iconst 0, 1), (71, .putfield 392, 3), (74, .iconst 0, 1), (75, .istore_n 3, 1), (76, .iload_n 3, 1), (77, .aload_n 0, 1), (78, .getfield 324, 3), (81, .if_icmp .gt 19, 3), (84, .aload_n 0, 1), (85, .iload_n 3, 1), (86, .invokevirtual 398, 3), (89, .ifCond .eq 11, 3), (92, .aload_n 0, 1), (93, .invokevirtual 401, 3), (96, .istore_n 3, 1), (97, .goto (-21), 3), (100, .aload_n 0, 1), (101, .invokevirtual 404, 3), (104, .aload_n 0, 1), (105, .getfield 395, 3), (108, .ireturn, 1)]
set_option maxRecDepth 100000 in
theorem dt_find : q_ck k_find t_find = true := by decide +kernel
def r_find_104 (m : Nat) (h0 : qH) (d : Nat) (B : qB) (Q : qO → qB → Prop) : Prop := Q (.inl (some (iv (B 14 0)))) B
theorem r_find_104_ok {m : Nat} {h0 : qH} {d : Nat} {B : qB} {Q : qO → qB → Prop} (hm : m + 100 < 1000000000) (w : r_find_104 m h0 d B Q) : qZ m h0 (d + 1) k_find 104 [some (.ref m), none, none, none] [] B Q := by
  unfold r_find_104 at w
  refine z_ldk (ok := q_isA) (n := 0) (ck_at dt_find 59 rfl) rfl rfl (fun _ => rfl) rfl rfl ?_
  refine z_getI (j := 14) (ck_at dt_find 60 rfl) own_find (mf_at 73 rfl) (by decide) rfl ?_
  exact z_retI (ck_at dt_find 61 rfl) rt_find w
def r_find_100 (m : Nat) (h0 : qH) (d : Nat) (B : qB) (Q : qO → qB → Prop) : Prop := qZ m h0 d k_keepFound 0 [some (.ref m), none] [] B (fun o B' => o = .inl none ∧ r_find_104 m h0 d B' Q)
theorem r_find_100_ok {m : Nat} {h0 : qH} {d : Nat} {B : qB} {Q : qO → qB → Prop} (hm : m + 100 < 1000000000) (w : r_find_100 m h0 d B Q) : qZ m h0 (d + 1) k_find 100 [some (.ref m), none, none, none] [] B Q := by
  unfold r_find_100 at w
  refine z_ldk (ok := q_isA) (n := 0) (ck_at dt_find 57 rfl) rfl rfl (fun _ => rfl) rfl rfl ?_
  refine z_virt (k' := k_keepFound) (n := 1) (as := []) (r := []) (ck_at dt_find 58 rfl) own_find (mm_at 50 rfl) vk_keepFound rfl nl_keepFound rfl rfl rfl rfl ?_
  exact w.mono (Nat.le_refl _) (fun o B' ⟨ho, w⟩ => ⟨none, ho, z_wk (r_find_104_ok hm w) ⟨rfl, trivial⟩⟩)
def r_find_96 (m : Nat) (h0 : qH) (d : Nat) (s0 : Int) (B : qB) (Q : qO → qB → Prop) : Prop := qZ m h0 (d + 1) k_find 76 [some (.ref m), none, none, some (iv s0)] [] B Q
theorem r_find_96_ok {m : Nat} {h0 : qH} {d : Nat} {s0 : Int} {B : qB} {Q : qO → qB → Prop} (hm : m + 100 < 1000000000) (w : r_find_96 m h0 d s0 B Q) : qZ m h0 (d + 1) k_find 96 [some (.ref m), none, none, none] [iv s0] B Q := by
  unfold r_find_96 at w
  refine z_st1 (ok := q_isI) (n := 3) (L' := [some (.ref m), none, none, some (iv s0)]) (ck_at dt_find 55 rfl) rfl (fun _ => rfl) (fun _ _ => rfl) rfl nl_find (by decide) trivial rfl ?_
  refine z_goto (t := 76) (ck_at dt_find 56 rfl) rfl ?_
  exact z_wk w ⟨rfl, ⟨rfl, trivial⟩⟩
def r_find_89 (m : Nat) (h0 : qH) (d : Nat) (s0 : Int) (B : qB) (Q : qO → qB → Prop) : Prop := R32 s0 ∧ (s0 = 0 → r_find_100 m h0 d B Q) ∧ (¬ s0 = 0 → qZ m h0 d k_behindLast 0 [some (.ref m)] [] B (fun o B' => ∃ v : Int, o = .inl (some (iv v)) ∧ r_find_96 m h0 d v B' Q))
theorem r_find_89_ok {m : Nat} {h0 : qH} {d : Nat} {s0 : Int} {B : qB} {Q : qO → qB → Prop} (hm : m + 100 < 1000000000) (w : r_find_89 m h0 d s0 B Q) : qZ m h0 (d + 1) k_find 89 [some (.ref m), none, none, none] [iv s0] B Q := by
  unfold r_find_89 at w
  obtain ⟨p1, w⟩ := w
  refine z_ifz (t := 100) (ck_at dt_find 52 rfl) rfl p1 ?_ ?_
  · intro q; have w := w.1 q
    exact z_wk (r_find_100_ok hm w) ⟨rfl, trivial⟩
  · intro q; have w := w.2 q
    refine z_ldk (ok := q_isA) (n := 0) (ck_at dt_find 53 rfl) rfl rfl (fun _ => rfl) rfl rfl ?_
    refine z_virt (k' := k_behindLast) (n := 0) (as := []) (r := []) (ck_at dt_find 54 rfl) own_find (mm_at 49 rfl) vk_behindLast rfl nl_behindLast rfl rfl rfl rfl ?_
    exact w.mono (Nat.le_refl _) (fun o B' ⟨v, ho, w⟩ => ⟨some (iv v), ho, z_wk (r_find_96_ok hm w) ⟨rfl, trivial⟩⟩)
def r_find_76 (m : Nat) (h0 : qH) (d : Nat) (x3 : Int) (B : qB) (Q : qO → qB → Prop) : Prop := R32 x3 ∧ R32 (B 57 0) ∧ (x3 > B 57 0 → r_find_100 m h0 d B Q) ∧ (x3 ≤ B 57 0 → qZ m h0 d k_nextMatch 0 [some (.ref m), some (iv x3), none, none] [] B (fun o B' => ∃ v : Int, o = .inl (some (iv v)) ∧ r_find_89 m h0 d v B' Q))
theorem r_find_76_ok {m : Nat} {h0 : qH} {d : Nat} {x3 : Int} {B : qB} {Q : qO → qB → Prop} (hm : m + 100 < 1000000000) (w : r_find_76 m h0 d x3 B Q) : qZ m h0 (d + 1) k_find 76 [some (.ref m), none, none, some (iv x3)] [] B Q := by
  unfold r_find_76 at w
  obtain ⟨p1, p2, w⟩ := w
  refine z_ldk (ok := q_isI) (n := 3) (ck_at dt_find 45 rfl) rfl rfl (fun _ => rfl) rfl rfl ?_
  refine z_ldk (ok := q_isA) (n := 0) (ck_at dt_find 46 rfl) rfl rfl (fun _ => rfl) rfl rfl ?_
  refine z_getI (j := 57) (ck_at dt_find 47 rfl) own_find (mf_at 66 rfl) (by decide) rfl ?_
  refine z_icmp (t := 100) (ck_at dt_find 48 rfl) rfl p1 p2 ?_ ?_
  · intro q; have w := w.1 q
    exact z_wk (r_find_100_ok hm w) ⟨rfl, trivial⟩
  · intro q; have w := w.2 q
    refine z_ldk (ok := q_isA) (n := 0) (ck_at dt_find 49 rfl) rfl rfl (fun _ => rfl) rfl rfl ?_
    refine z_ldk (ok := q_isI) (n := 3) (ck_at dt_find 50 rfl) rfl rfl (fun _ => rfl) rfl rfl ?_
    refine z_virt (k' := k_nextMatch) (n := 2) (as := [iv x3]) (r := []) (ck_at dt_find 51 rfl) own_find (mm_at 48 rfl) vk_nextMatch rfl nl_nextMatch rfl rfl rfl rfl ?_
    exact w.mono (Nat.le_refl _) (fun o B' ⟨v, ho, w⟩ => ⟨some (iv v), ho, z_wk (r_find_89_ok hm w) ⟨rfl, trivial⟩⟩)
def r_find_69 (m : Nat) (h0 : qH) (d : Nat) (B : qB) (Q : qO → qB → Prop) : Prop := qZ m h0 (d + 1) k_find 76 [some (.ref m), none, none, some (iv 0)] [] (u2 B 72 0 0) Q
theorem r_find_69_ok {m : Nat} {h0 : qH} {d : Nat} {B : qB} {Q : qO → qB → Prop} (hm : m + 100 < 1000000000) (w : r_find_69 m h0 d B Q) : qZ m h0 (d + 1) k_find 69 [some (.ref m), none, none, none] [] B Q := by
  unfold r_find_69 at w
  refine z_ldk (ok := q_isA) (n := 0) (ck_at dt_find 40 rfl) rfl rfl (fun _ => rfl) rfl rfl ?_
  refine z_op (ck_at dt_find 41 rfl) rfl (o_const _) ?_
  refine z_putI (j := 72) hm (ck_at dt_find 42 rfl) own_find (mf_at 72 rfl) (by decide) rfl rfl rfl ?_
  refine z_op (ck_at dt_find 43 rfl) rfl (o_const _) ?_
  refine z_st1 (ok := q_isI) (n := 3) (L' := [some (.ref m), none, none, some (iv 0)]) (ck_at dt_find 44 rfl) rfl (fun _ => rfl) (fun _ _ => rfl) rfl nl_find (by decide) trivial rfl ?_
  exact z_wk w ⟨rfl, ⟨rfl, trivial⟩⟩
def r_find_57 (m : Nat) (h0 : qH) (d : Nat) (s0 : Int) (B : qB) (Q : qO → qB → Prop) : Prop := Q (.inl (some (iv s0))) B
theorem r_find_57_ok {m : Nat} {h0 : qH} {d : Nat} {s0 : Int} {B : qB} {Q : qO → qB → Prop} (hm : m + 100 < 1000000000) (w : r_find_57 m h0 d s0 B Q) : qZ m h0 (d + 1) k_find 57 [none, none, none, none] [iv s0] B Q := by
  unfold r_find_57 at w
  exact z_retI (ck_at dt_find 32 rfl) rt_find w
def r_find_39 (m : Nat) (h0 : qH) (d : Nat) (s0 : Int) (B : qB) (Q : qO → qB → Prop) : Prop := Q (.inl (some (iv s0))) B
theorem r_find_39_ok {m : Nat} {h0 : qH} {d : Nat} {s0 : Int} {B : qB} {Q : qO → qB → Prop} (hm : m + 100 < 1000000000) (w : r_find_39 m h0 d s0 B Q) : qZ m h0 (d + 1) k_find 39 [none, none, none, none] [iv s0] B Q := by
  unfold r_find_39 at w
  exact z_retI (ck_at dt_find 22 rfl) rt_find w
def r_find_24 (m : Nat) (h0 : qH) (d : Nat) (s0 : Int) (B : qB) (Q : qO → qB → Prop) : Prop := Q (.inl (some (iv s0))) B
theorem r_find_24_ok {m : Nat} {h0 : qH} {d : Nat} {s0 : Int} {B : qB} {Q : qO → qB → Prop} (hm : m + 100 < 1000000000) (w : r_find_24 m h0 d s0 B Q) : qZ m h0 (d + 1) k_find 24 [none, none, none, none] [iv s0] B Q := by
  unfold r_find_24 at w
  exact z_retI (ck_at dt_find 13 rfl) rt_find w
def r_find_19 (m : Nat) (h0 : qH) (d : Nat) (B : qB) (Q : qO → qB → Prop) : Prop := qZ m h0 d k_refuse 0 [some (.ref m), some (iv 1)] [] B (fun o B' => ∃ v : Int, o = .inl (some (iv v)) ∧ r_find_24 m h0 d v B' Q)
theorem r_find_19_ok {m : Nat} {h0 : qH} {d : Nat} {B : qB} {Q : qO → qB → Prop} (hm : m + 100 < 1000000000) (w : r_find_19 m h0 d B Q) : qZ m h0 (d + 1) k_find 19 [some (.ref m), none, none, none] [] B Q := by
  unfold r_find_19 at w
  refine z_ldk (ok := q_isA) (n := 0) (ck_at dt_find 10 rfl) rfl rfl (fun _ => rfl) rfl rfl ?_
  refine z_op (ck_at dt_find 11 rfl) rfl (o_const _) ?_
  refine z_virt (k' := k_refuse) (n := 0) (as := [iv 1]) (r := []) (ck_at dt_find 12 rfl) own_find (mm_at 0 rfl) vk_refuse rfl nl_refuse rfl rfl rfl rfl ?_
  exact w.mono (Nat.le_refl _) (fun o B' ⟨v, ho, w⟩ => ⟨some (iv v), ho, z_wk (r_find_24_ok hm w) trivial⟩)
def r_find_16 (m : Nat) (h0 : qH) (d : Nat) (x1 x2 s0 : Int) (B : qB) (Q : qO → qB → Prop) : Prop := R32 s0 ∧ (¬ s0 = 0 → 0 ≤ x1 ∧ x1 < 8 ∧ R32 (B 6 x1) ∧ (¬ B 6 x1 = 0 → 0 ≤ x2 ∧ x2 < 4 ∧ R32 (B 9 x2) ∧ (B 9 x2 ≤ 300 → qZ m h0 d k_prepare 0 [some (.ref m), some (iv x1), some (iv x2)] [] (u2 B 0 0 0) (fun o B' => o = .inl none ∧ r_find_69 m h0 d B' Q)) ∧ (B 9 x2 > 300 → qZ m h0 d k_refuse 0 [some (.ref m), some (iv 3)] [] B (fun o B' => ∃ v : Int, o = .inl (some (iv v)) ∧ r_find_57 m h0 d v B' Q))) ∧ (B 6 x1 = 0 → qZ m h0 d k_refuse 0 [some (.ref m), some (iv 2)] [] B (fun o B' => ∃ v : Int, o = .inl (some (iv v)) ∧ r_find_39 m h0 d v B' Q))) ∧ (s0 = 0 → r_find_19 m h0 d B Q)
theorem r_find_16_ok {m : Nat} {h0 : qH} {d : Nat} {x1 x2 s0 : Int} {B : qB} {Q : qO → qB → Prop} (hm : m + 100 < 1000000000) (w : r_find_16 m h0 d x1 x2 s0 B Q) : qZ m h0 (d + 1) k_find 16 [some (.ref m), some (iv x1), some (iv x2), none] [iv s0] B Q := by
  unfold r_find_16 at w
  obtain ⟨p1, w⟩ := w
  refine z_ifz (t := 25) (ck_at dt_find 9 rfl) rfl p1 ?_ ?_
  · intro q; have w := w.1 q
    obtain ⟨p2, p3, p4, w⟩ := w
    refine z_ldk (ok := q_isA) (n := 0) (ck_at dt_find 14 rfl) rfl rfl (fun _ => rfl) rfl rfl ?_
    refine z_getR (j := 6) (a := 3) (ck_at dt_find 15 rfl) own_find (mf_at 4 rfl) (by decide) rfl rfl ?_
    refine z_ldk (ok := q_isI) (n := 1) (ck_at dt_find 16 rfl) rfl rfl (fun _ => rfl) rfl rfl ?_
    refine z_iald (j := 6) (n := 8) (ck_at dt_find 17 rfl) rfl rfl rfl p2 p3 ?_
    refine z_ifz (t := 40) (ck_at dt_find 18 rfl) rfl p4 ?_ ?_
    · intro q; have w := w.1 q
      obtain ⟨p5, p6, p7, w⟩ := w
      refine z_ldk (ok := q_isA) (n := 0) (ck_at dt_find 23 rfl) rfl rfl (fun _ => rfl) rfl rfl ?_
      refine z_getR (j := 9) (a := 6) (ck_at dt_find 24 rfl) own_find (mf_at 7 rfl) (by decide) rfl rfl ?_
      refine z_ldk (ok := q_isI) (n := 2) (ck_at dt_find 25 rfl) rfl rfl (fun _ => rfl) rfl rfl ?_
      refine z_iald (j := 9) (n := 4) (ck_at dt_find 26 rfl) rfl rfl rfl p5 p6 ?_
      refine z_op (ck_at dt_find 27 rfl) rfl (o_sipush _ (by decide)) ?_
      refine z_icmp (t := 58) (ck_at dt_find 28 rfl) rfl p7 ⟨by decide, by decide⟩ ?_ ?_
      · intro q; have w := w.1 q
        refine z_ldk (ok := q_isA) (n := 0) (ck_at dt_find 33 rfl) rfl rfl (fun _ => rfl) rfl rfl ?_
        refine z_op (ck_at dt_find 34 rfl) rfl (o_const _) ?_
        refine z_putI (j := 0) hm (ck_at dt_find 35 rfl) own_find (mf_at 47 rfl) (by decide) rfl rfl rfl ?_
        refine z_ldk (ok := q_isA) (n := 0) (ck_at dt_find 36 rfl) rfl rfl (fun _ => rfl) rfl rfl ?_
        refine z_ldk (ok := q_isI) (n := 1) (ck_at dt_find 37 rfl) rfl rfl (fun _ => rfl) rfl rfl ?_
        refine z_ldk (ok := q_isI) (n := 2) (ck_at dt_find 38 rfl) rfl rfl (fun _ => rfl) rfl rfl ?_
        refine z_virt (k' := k_prepare) (n := 0) (as := [iv x1, iv x2]) (r := []) (ck_at dt_find 39 rfl) own_find (mm_at 26 rfl) vk_prepare rfl nl_prepare rfl rfl rfl rfl ?_
        exact w.mono (Nat.le_refl _) (fun o B' ⟨ho, w⟩ => ⟨none, ho, z_wk (r_find_69_ok hm w) ⟨rfl, trivial⟩⟩)
      · intro q; have w := w.2 q
        refine z_ldk (ok := q_isA) (n := 0) (ck_at dt_find 29 rfl) rfl rfl (fun _ => rfl) rfl rfl ?_
        refine z_op (ck_at dt_find 30 rfl) rfl (o_const _) ?_
        refine z_virt (k' := k_refuse) (n := 0) (as := [iv 3]) (r := []) (ck_at dt_find 31 rfl) own_find (mm_at 0 rfl) vk_refuse rfl nl_refuse rfl rfl rfl rfl ?_
        exact w.mono (Nat.le_refl _) (fun o B' ⟨v, ho, w⟩ => ⟨some (iv v), ho, z_wk (r_find_57_ok hm w) trivial⟩)
    · intro q; have w := w.2 q
      refine z_ldk (ok := q_isA) (n := 0) (ck_at dt_find 19 rfl) rfl rfl (fun _ => rfl) rfl rfl ?_
      refine z_op (ck_at dt_find 20 rfl) rfl (o_const _) ?_
      refine z_virt (k' := k_refuse) (n := 0) (as := [iv 2]) (r := []) (ck_at dt_find 21 rfl) own_find (mm_at 0 rfl) vk_refuse rfl nl_refuse rfl rfl rfl rfl ?_
      exact w.mono (Nat.le_refl _) (fun o B' ⟨v, ho, w⟩ => ⟨some (iv v), ho, z_wk (r_find_39_ok hm w) trivial⟩)
  · intro q; have w := w.2 q
    exact z_wk (r_find_19_ok hm w) ⟨rfl, trivial⟩
def r_find_7 (m : Nat) (h0 : qH) (d : Nat) (x1 x2 s0 : Int) (B : qB) (Q : qO → qB → Prop) : Prop := R32 s0 ∧ (s0 = 0 → r_find_19 m h0 d B Q) ∧ (¬ s0 = 0 → qZ m h0 d k_in 0 [some (iv x2), some (iv 0), some (iv 3)] [] B (fun o B' => ∃ v : Int, o = .inl (some (iv v)) ∧ r_find_16 m h0 d x1 x2 v B' Q))
theorem r_find_7_ok {m : Nat} {h0 : qH} {d : Nat} {x1 x2 s0 : Int} {B : qB} {Q : qO → qB → Prop} (hm : m + 100 < 1000000000) (w : r_find_7 m h0 d x1 x2 s0 B Q) : qZ m h0 (d + 1) k_find 7 [some (.ref m), some (iv x1), some (iv x2), none] [iv s0] B Q := by
  unfold r_find_7 at w
  obtain ⟨p1, w⟩ := w
  refine z_ifz (t := 19) (ck_at dt_find 4 rfl) rfl p1 ?_ ?_
  · intro q; have w := w.1 q
    exact z_wk (r_find_19_ok hm w) ⟨rfl, trivial⟩
  · intro q; have w := w.2 q
    refine z_ldk (ok := q_isI) (n := 2) (ck_at dt_find 5 rfl) rfl rfl (fun _ => rfl) rfl rfl ?_
    refine z_op (ck_at dt_find 6 rfl) rfl (o_const _) ?_
    refine z_op (ck_at dt_find 7 rfl) rfl (o_const _) ?_
    refine z_stat (k' := k_in) (n := 0) (as := [iv x2, iv 0, iv 3]) (r := []) (ck_at dt_find 8 rfl) own_find (mm_at 2 rfl) (ms_at 0 rfl) vk_in rfl nl_in rfl rfl rfl rfl ?_
    exact w.mono (Nat.le_refl _) (fun o B' ⟨v, ho, w⟩ => ⟨some (iv v), ho, z_wk (r_find_16_ok hm w) ⟨rfl, ⟨rfl, ⟨rfl, trivial⟩⟩⟩⟩)
def r_find_0 (m : Nat) (h0 : qH) (d : Nat) (x1 x2 : Int) (B : qB) (Q : qO → qB → Prop) : Prop := qZ m h0 d k_in 0 [some (iv x1), some (iv 0), some (iv 7)] [] B (fun o B' => ∃ v : Int, o = .inl (some (iv v)) ∧ r_find_7 m h0 d x1 x2 v B' Q)
theorem r_find_0_ok {m : Nat} {h0 : qH} {d : Nat} {x1 x2 : Int} {B : qB} {Q : qO → qB → Prop} (hm : m + 100 < 1000000000) (w : r_find_0 m h0 d x1 x2 B Q) : qZ m h0 (d + 1) k_find 0 [some (.ref m), some (iv x1), some (iv x2), none] [] B Q := by
  unfold r_find_0 at w
  refine z_ldk (ok := q_isI) (n := 1) (ck_at dt_find 0 rfl) rfl rfl (fun _ => rfl) rfl rfl ?_
  refine z_op (ck_at dt_find 1 rfl) rfl (o_const _) ?_
  refine z_op (ck_at dt_find 2 rfl) rfl (o_bipush _ (by decide)) ?_
  refine z_stat (k' := k_in) (n := 0) (as := [iv x1, iv 0, iv 7]) (r := []) (ck_at dt_find 3 rfl) own_find (mm_at 2 rfl) (ms_at 0 rfl) vk_in rfl nl_in rfl rfl rfl rfl ?_
  exact w.mono (Nat.le_refl _) (fun o B' ⟨v, ho, w⟩ => ⟨some (iv v), ho, z_wk (r_find_7_ok hm w) ⟨rfl, ⟨rfl, ⟨rfl, trivial⟩⟩⟩⟩)
/-! substitute()V -/
def t_substitute : List (Nat × Instr × Nat) := [(0, .iconst 0, 1), (1, .istore_n 1, 1), (2, .iload_n 1, 1), (3, .aload_n 0, 1), (4, .getfield 174, 3), (7, .if_icmp .ge 131, 3), (10, .aload_n 0, 1), (11, .getfield 47, 3), (14, .iload_n 1, 1), (15, .iaload, 1), (16, .bipush 36, 2), (18, .if_icmp .eq 16, 3), (21, .aload_n 0, 1), (22, .aload_n 0, 1), (23, .getfield 47, 3), (26, .iload_n 1, 1), (27, .iaload, 1), (28, .invokevirtual 413, 3), (31, .goto 101, 3), (34, .iinc 1 1, 3), (37, .aload_n 0, 1), (38, .getfield 47, 3), (41, .iload_n 1, 1), (42, .iaload, 1), (43, .bipush 36, 2), (45, .if_icmp .ne 12, 3), (48, .aload_n 0, 1), (49, .bipush 36, 2), (51, .invokevirtual 413, 3), (54, .goto 78, 3), (57, .aload_n 0, 1), (58, .getfield 47, 3), (61, .iload_n 1, 1), (62, .iaload, 1), (63, .bipush 48, 2), (65, .isub, 1), (66, .istore_n 2, 1), (67, .aload_n 0, 1), (68, .getfield 112, 3), (71, .iconst 2, 1), (72, .iload_n 2, 1), (73, .imul, 1), (74, .iaload, 1), (75, .ifCond .lt 57, 3), (78, .aload_n 0, 1), (79, .getfield 112, 3), (82, .iconst 2, 1), (83, .iload_n 2, 1), (84, .imul, 1), (85, .iconst 1, 1), (86, .iadd, 1), (87, .iaload, 1), (88, .ifCond .ge 6, 3), (91, .goto 41, 3), (94, .aload_n 0, 1), (95, .getfield 112, 3), (98, .iconst 2, 1), (99, .iload_n 2, 1), (100, .imul, 1), (101, .iaload, 1), (102, .istore_n 3, 1), (103, .iload_n 3, 1), (104, .aload_n 0, 1), (105, .getfield 112, 3), (108, .iconst 2, 1), (109, .iload_n 2, 1), (110, .imul, 1), (111, .iconst 1, 1), (112, .iadd, 1), (113, .iaload, 1), (114, .if_icmp .ge 18, 3), (117, .aload_n 0, 1), (118, .aload_n 0, 1), (119, .iload_n 3, 1), (120, .invokevirtual 330, 3), (123, .invokevirtual 413, 3), (126, .iinc 3 1, 3), (129, .goto (-26), 3), (132, .iinc 1 1, 3), (135, .goto (-133), 3), (138, .return_, 1)]
set_option maxRecDepth 100000 in
theorem dt_substitute : q_ck k_substitute t_substitute = true := by decide +kernel
def r_substitute_132 (m : Nat) (h0 : qH) (d : Nat) (x1 : Int) (B : qB) (Q : qO → qB → Prop) : Prop := qZ m h0 (d + 1) k_substitute 2 [some (.ref m), some (iv (x1 + 1)), none, none] [] B Q
theorem r_substitute_132_ok {m : Nat} {h0 : qH} {d : Nat} {x1 : Int} {B : qB} {Q : qO → qB → Prop} (hm : m + 100 < 1000000000) (w : r_substitute_132 m h0 d x1 B Q) : qZ m h0 (d + 1) k_substitute 132 [some (.ref m), some (iv x1), none, none] [] B Q := by
  unfold r_substitute_132 at w
  refine z_iinc (n := 1) (L' := [some (.ref m), some (iv (x1 + 1)), none, none]) (ck_at dt_substitute 78 rfl) rfl nl_substitute (by decide) rfl rfl ?_
  refine z_goto (t := 2) (ck_at dt_substitute 79 rfl) rfl ?_
  exact z_wk w ⟨rfl, ⟨rfl, trivial⟩⟩
def r_substitute_126 (m : Nat) (h0 : qH) (d : Nat) (x1 x2 x3 : Int) (B : qB) (Q : qO → qB → Prop) : Prop := qZ m h0 (d + 1) k_substitute 103 [some (.ref m), some (iv x1), some (iv x2), some (iv (x3 + 1))] [] B Q
theorem r_substitute_126_ok {m : Nat} {h0 : qH} {d : Nat} {x1 x2 x3 : Int} {B : qB} {Q : qO → qB → Prop} (hm : m + 100 < 1000000000) (w : r_substitute_126 m h0 d x1 x2 x3 B Q) : qZ m h0 (d + 1) k_substitute 126 [some (.ref m), some (iv x1), some (iv x2), some (iv x3)] [] B Q := by
  unfold r_substitute_126 at w
  refine z_iinc (n := 3) (L' := [some (.ref m), some (iv x1), some (iv x2), some (iv (x3 + 1))]) (ck_at dt_substitute 76 rfl) rfl nl_substitute (by decide) rfl rfl ?_
  refine z_goto (t := 103) (ck_at dt_substitute 77 rfl) rfl ?_
  exact z_wk w ⟨rfl, ⟨rfl, ⟨rfl, ⟨rfl, trivial⟩⟩⟩⟩
def r_substitute_123 (m : Nat) (h0 : qH) (d : Nat) (x1 x2 x3 s1 : Int) (B : qB) (Q : qO → qB → Prop) : Prop := qZ m h0 d k_say 0 [some (.ref m), some (iv s1)] [] B (fun o B' => o = .inl none ∧ r_substitute_126 m h0 d x1 x2 x3 B' Q)
theorem r_substitute_123_ok {m : Nat} {h0 : qH} {d : Nat} {x1 x2 x3 s1 : Int} {B : qB} {Q : qO → qB → Prop} (hm : m + 100 < 1000000000) (w : r_substitute_123 m h0 d x1 x2 x3 s1 B Q) : qZ m h0 (d + 1) k_substitute 123 [some (.ref m), some (iv x1), some (iv x2), some (iv x3)] [iv s1, .ref m] B Q := by
  unfold r_substitute_123 at w
  refine z_virt (k' := k_say) (n := 0) (as := [iv s1]) (r := []) (ck_at dt_substitute 75 rfl) own_substitute (mm_at 51 rfl) vk_say rfl nl_say rfl rfl rfl rfl ?_
  exact w.mono (Nat.le_refl _) (fun o B' ⟨ho, w⟩ => ⟨none, ho, z_wk (r_substitute_126_ok hm w) ⟨rfl, ⟨rfl, ⟨rfl, ⟨rfl, trivial⟩⟩⟩⟩⟩)
def r_substitute_103 (m : Nat) (h0 : qH) (d : Nat) (x1 x2 x3 : Int) (B : qB) (Q : qO → qB → Prop) : Prop := 0 ≤ (2 * x2) + 1 ∧ (2 * x2) + 1 < 20 ∧ R32 x3 ∧ R32 (B 49 ((2 * x2) + 1)) ∧ (x3 ≥ B 49 ((2 * x2) + 1) → r_substitute_132 m h0 d x1 B Q) ∧ (x3 < B 49 ((2 * x2) + 1) → qZ m h0 d k_byteAt 0 [some (.ref m), some (iv x3)] [] B (fun o B' => ∃ v : Int, o = .inl (some (iv v)) ∧ r_substitute_123 m h0 d x1 x2 x3 v B' Q))
theorem r_substitute_103_ok {m : Nat} {h0 : qH} {d : Nat} {x1 x2 x3 : Int} {B : qB} {Q : qO → qB → Prop} (hm : m + 100 < 1000000000) (w : r_substitute_103 m h0 d x1 x2 x3 B Q) : qZ m h0 (d + 1) k_substitute 103 [some (.ref m), some (iv x1), some (iv x2), some (iv x3)] [] B Q := by
  unfold r_substitute_103 at w
  obtain ⟨p1, p2, p3, p4, w⟩ := w
  refine z_ldk (ok := q_isI) (n := 3) (ck_at dt_substitute 61 rfl) rfl rfl (fun _ => rfl) rfl rfl ?_
  refine z_ldk (ok := q_isA) (n := 0) (ck_at dt_substitute 62 rfl) rfl rfl (fun _ => rfl) rfl rfl ?_
  refine z_getR (j := 49) (a := 32) (ck_at dt_substitute 63 rfl) own_substitute (mf_at 33 rfl) (by decide) rfl rfl ?_
  refine z_op (ck_at dt_substitute 64 rfl) rfl (o_const _) ?_
  refine z_ldk (ok := q_isI) (n := 2) (ck_at dt_substitute 65 rfl) rfl rfl (fun _ => rfl) rfl rfl ?_
  refine z_op (ck_at dt_substitute 66 rfl) rfl o_imul ?_
  refine z_op (ck_at dt_substitute 67 rfl) rfl (o_const _) ?_
  refine z_op (ck_at dt_substitute 68 rfl) rfl o_iadd ?_
  refine z_iald (j := 49) (n := 20) (ck_at dt_substitute 69 rfl) rfl rfl rfl p1 p2 ?_
  refine z_icmp (t := 132) (ck_at dt_substitute 70 rfl) rfl p3 p4 ?_ ?_
  · intro q; have w := w.1 q
    exact z_wk (r_substitute_132_ok hm w) ⟨rfl, ⟨rfl, trivial⟩⟩
  · intro q; have w := w.2 q
    refine z_ldk (ok := q_isA) (n := 0) (ck_at dt_substitute 71 rfl) rfl rfl (fun _ => rfl) rfl rfl ?_
    refine z_ldk (ok := q_isA) (n := 0) (ck_at dt_substitute 72 rfl) rfl rfl (fun _ => rfl) rfl rfl ?_
    refine z_ldk (ok := q_isI) (n := 3) (ck_at dt_substitute 73 rfl) rfl rfl (fun _ => rfl) rfl rfl ?_
    refine z_virt (k' := k_byteAt) (n := 0) (as := [iv x3]) (r := [.ref m]) (ck_at dt_substitute 74 rfl) own_substitute (mm_at 43 rfl) vk_byteAt rfl nl_byteAt rfl rfl rfl rfl ?_
    exact w.mono (Nat.le_refl _) (fun o B' ⟨v, ho, w⟩ => ⟨some (iv v), ho, z_wk (r_substitute_123_ok hm w) ⟨rfl, ⟨rfl, ⟨rfl, ⟨rfl, trivial⟩⟩⟩⟩⟩)
def r_substitute_54 (m : Nat) (h0 : qH) (d : Nat) (x1 : Int) (B : qB) (Q : qO → qB → Prop) : Prop := r_substitute_132 m h0 d x1 B Q
theorem r_substitute_54_ok {m : Nat} {h0 : qH} {d : Nat} {x1 : Int} {B : qB} {Q : qO → qB → Prop} (hm : m + 100 < 1000000000) (w : r_substitute_54 m h0 d x1 B Q) : qZ m h0 (d + 1) k_substitute 54 [some (.ref m), some (iv x1), none, none] [] B Q := by
  unfold r_substitute_54 at w
  refine z_goto (t := 132) (ck_at dt_substitute 29 rfl) rfl ?_
  exact z_wk (r_substitute_132_ok hm w) ⟨rfl, ⟨rfl, trivial⟩⟩
def r_substitute_31 (m : Nat) (h0 : qH) (d : Nat) (x1 : Int) (B : qB) (Q : qO → qB → Prop) : Prop := r_substitute_132 m h0 d x1 B Q
theorem r_substitute_31_ok {m : Nat} {h0 : qH} {d : Nat} {x1 : Int} {B : qB} {Q : qO → qB → Prop} (hm : m + 100 < 1000000000) (w : r_substitute_31 m h0 d x1 B Q) : qZ m h0 (d + 1) k_substitute 31 [some (.ref m), some (iv x1), none, none] [] B Q := by
  unfold r_substitute_31 at w
  refine z_goto (t := 132) (ck_at dt_substitute 18 rfl) rfl ?_
  exact z_wk (r_substitute_132_ok hm w) ⟨rfl, ⟨rfl, trivial⟩⟩
def r_substitute_2 (m : Nat) (h0 : qH) (d : Nat) (x1 : Int) (B : qB) (Q : qO → qB → Prop) : Prop := R32 x1 ∧ R32 (B 16 0) ∧ (x1 ≥ B 16 0 → Q (.inl none) B) ∧ (x1 < B 16 0 → 0 ≤ x1 ∧ x1 < 1200 ∧ R32 (B 15 x1) ∧ (B 15 x1 = 36 → 0 ≤ x1 + 1 ∧ x1 + 1 < 1200 ∧ R32 (B 15 (x1 + 1)) ∧ (¬ B 15 (x1 + 1) = 36 → 0 ≤ 2 * ((B 15 (x1 + 1)) - 48) ∧ 2 * ((B 15 (x1 + 1)) - 48) < 20 ∧ R32 (B 49 (2 * ((B 15 (x1 + 1)) - 48))) ∧ (B 49 (2 * ((B 15 (x1 + 1)) - 48)) < 0 → r_substitute_132 m h0 d (x1 + 1) B Q) ∧ (B 49 (2 * ((B 15 (x1 + 1)) - 48)) ≥ 0 → 0 ≤ (2 * ((B 15 (x1 + 1)) - 48)) + 1 ∧ (2 * ((B 15 (x1 + 1)) - 48)) + 1 < 20 ∧ R32 (B 49 ((2 * ((B 15 (x1 + 1)) - 48)) + 1)) ∧ (B 49 ((2 * ((B 15 (x1 + 1)) - 48)) + 1) ≥ 0 → qZ m h0 (d + 1) k_substitute 103 [some (.ref m), some (iv (x1 + 1)), some (iv ((B 15 (x1 + 1)) - 48)), some (iv (B 49 (2 * ((B 15 (x1 + 1)) - 48))))] [] B Q) ∧ (B 49 ((2 * ((B 15 (x1 + 1)) - 48)) + 1) < 0 → r_substitute_132 m h0 d (x1 + 1) B Q))) ∧ (B 15 (x1 + 1) = 36 → qZ m h0 d k_say 0 [some (.ref m), some (iv 36)] [] B (fun o B' => o = .inl none ∧ r_substitute_54 m h0 d (x1 + 1) B' Q))) ∧ (¬ B 15 x1 = 36 → qZ m h0 d k_say 0 [some (.ref m), some (iv (B 15 x1))] [] B (fun o B' => o = .inl none ∧ r_substitute_31 m h0 d x1 B' Q)))
theorem r_substitute_2_ok {m : Nat} {h0 : qH} {d : Nat} {x1 : Int} {B : qB} {Q : qO → qB → Prop} (hm : m + 100 < 1000000000) (w : r_substitute_2 m h0 d x1 B Q) : qZ m h0 (d + 1) k_substitute 2 [some (.ref m), some (iv x1), none, none] [] B Q := by
  unfold r_substitute_2 at w
  obtain ⟨p1, p2, w⟩ := w
  refine z_ldk (ok := q_isI) (n := 1) (ck_at dt_substitute 2 rfl) rfl rfl (fun _ => rfl) rfl rfl ?_
  refine z_ldk (ok := q_isA) (n := 0) (ck_at dt_substitute 3 rfl) rfl rfl (fun _ => rfl) rfl rfl ?_
  refine z_getI (j := 16) (ck_at dt_substitute 4 rfl) own_substitute (mf_at 49 rfl) (by decide) rfl ?_
  refine z_icmp (t := 138) (ck_at dt_substitute 5 rfl) rfl p1 p2 ?_ ?_
  · intro q; have w := w.1 q
    exact z_ret0 (ck_at dt_substitute 80 rfl) rt_substitute w
  · intro q; have w := w.2 q
    obtain ⟨p3, p4, p5, w⟩ := w
    refine z_ldk (ok := q_isA) (n := 0) (ck_at dt_substitute 6 rfl) rfl rfl (fun _ => rfl) rfl rfl ?_
    refine z_getR (j := 15) (a := 11) (ck_at dt_substitute 7 rfl) own_substitute (mf_at 12 rfl) (by decide) rfl rfl ?_
    refine z_ldk (ok := q_isI) (n := 1) (ck_at dt_substitute 8 rfl) rfl rfl (fun _ => rfl) rfl rfl ?_
    refine z_iald (j := 15) (n := 1200) (ck_at dt_substitute 9 rfl) rfl rfl rfl p3 p4 ?_
    refine z_op (ck_at dt_substitute 10 rfl) rfl (o_bipush _ (by decide)) ?_
    refine z_icmp (t := 34) (ck_at dt_substitute 11 rfl) rfl p5 ⟨by decide, by decide⟩ ?_ ?_
    · intro q; have w := w.1 q
      obtain ⟨p6, p7, p8, w⟩ := w
      refine z_iinc (n := 1) (L' := [some (.ref m), some (iv (x1 + 1)), none, none]) (ck_at dt_substitute 19 rfl) rfl nl_substitute (by decide) rfl rfl ?_
      refine z_ldk (ok := q_isA) (n := 0) (ck_at dt_substitute 20 rfl) rfl rfl (fun _ => rfl) rfl rfl ?_
      refine z_getR (j := 15) (a := 11) (ck_at dt_substitute 21 rfl) own_substitute (mf_at 12 rfl) (by decide) rfl rfl ?_
      refine z_ldk (ok := q_isI) (n := 1) (ck_at dt_substitute 22 rfl) rfl rfl (fun _ => rfl) rfl rfl ?_
      refine z_iald (j := 15) (n := 1200) (ck_at dt_substitute 23 rfl) rfl rfl rfl p6 p7 ?_
      refine z_op (ck_at dt_substitute 24 rfl) rfl (o_bipush _ (by decide)) ?_
      refine z_icmp (t := 57) (ck_at dt_substitute 25 rfl) rfl p8 ⟨by decide, by decide⟩ ?_ ?_
      · intro q; have w := w.1 q
        obtain ⟨p9, p10, p11, w⟩ := w
        refine z_ldk (ok := q_isA) (n := 0) (ck_at dt_substitute 30 rfl) rfl rfl (fun _ => rfl) rfl rfl ?_
        refine z_getR (j := 15) (a := 11) (ck_at dt_substitute 31 rfl) own_substitute (mf_at 12 rfl) (by decide) rfl rfl ?_
        refine z_ldk (ok := q_isI) (n := 1) (ck_at dt_substitute 32 rfl) rfl rfl (fun _ => rfl) rfl rfl ?_
        refine z_iald (j := 15) (n := 1200) (ck_at dt_substitute 33 rfl) rfl rfl rfl p6 p7 ?_
        refine z_op (ck_at dt_substitute 34 rfl) rfl (o_bipush _ (by decide)) ?_
        refine z_op (ck_at dt_substitute 35 rfl) rfl o_isub ?_
        refine z_st1 (ok := q_isI) (n := 2) (L' := [some (.ref m), some (iv (x1 + 1)), some (iv ((B 15 (x1 + 1)) - 48)), none]) (ck_at dt_substitute 36 rfl) rfl (fun _ => rfl) (fun _ _ => rfl) rfl nl_substitute (by decide) rfl rfl ?_
        refine z_ldk (ok := q_isA) (n := 0) (ck_at dt_substitute 37 rfl) rfl rfl (fun _ => rfl) rfl rfl ?_
        refine z_getR (j := 49) (a := 32) (ck_at dt_substitute 38 rfl) own_substitute (mf_at 33 rfl) (by decide) rfl rfl ?_
        refine z_op (ck_at dt_substitute 39 rfl) rfl (o_const _) ?_
        refine z_ldk (ok := q_isI) (n := 2) (ck_at dt_substitute 40 rfl) rfl rfl (fun _ => rfl) rfl rfl ?_
        refine z_op (ck_at dt_substitute 41 rfl) rfl o_imul ?_
        refine z_iald (j := 49) (n := 20) (ck_at dt_substitute 42 rfl) rfl rfl rfl p9 p10 ?_
        refine z_ifz (t := 132) (ck_at dt_substitute 43 rfl) rfl p11 ?_ ?_
        · intro q; have w := w.1 q
          exact z_wk (r_substitute_132_ok hm w) ⟨rfl, ⟨rfl, trivial⟩⟩
        · intro q; have w := w.2 q
          obtain ⟨p12, p13, p14, w⟩ := w
          refine z_ldk (ok := q_isA) (n := 0) (ck_at dt_substitute 44 rfl) rfl rfl (fun _ => rfl) rfl rfl ?_
          refine z_getR (j := 49) (a := 32) (ck_at dt_substitute 45 rfl) own_substitute (mf_at 33 rfl) (by decide) rfl rfl ?_
          refine z_op (ck_at dt_substitute 46 rfl) rfl (o_const _) ?_
          refine z_ldk (ok := q_isI) (n := 2) (ck_at dt_substitute 47 rfl) rfl rfl (fun _ => rfl) rfl rfl ?_
          refine z_op (ck_at dt_substitute 48 rfl) rfl o_imul ?_
          refine z_op (ck_at dt_substitute 49 rfl) rfl (o_const _) ?_
          refine z_op (ck_at dt_substitute 50 rfl) rfl o_iadd ?_
          refine z_iald (j := 49) (n := 20) (ck_at dt_substitute 51 rfl) rfl rfl rfl p12 p13 ?_
          refine z_ifz (t := 94) (ck_at dt_substitute 52 rfl) rfl p14 ?_ ?_
          · intro q; have w := w.1 q
            refine z_ldk (ok := q_isA) (n := 0) (ck_at dt_substitute 54 rfl) rfl rfl (fun _ => rfl) rfl rfl ?_
            refine z_getR (j := 49) (a := 32) (ck_at dt_substitute 55 rfl) own_substitute (mf_at 33 rfl) (by decide) rfl rfl ?_
            refine z_op (ck_at dt_substitute 56 rfl) rfl (o_const _) ?_
            refine z_ldk (ok := q_isI) (n := 2) (ck_at dt_substitute 57 rfl) rfl rfl (fun _ => rfl) rfl rfl ?_
            refine z_op (ck_at dt_substitute 58 rfl) rfl o_imul ?_
            refine z_iald (j := 49) (n := 20) (ck_at dt_substitute 59 rfl) rfl rfl rfl p9 p10 ?_
            refine z_st1 (ok := q_isI) (n := 3) (L' := [some (.ref m), some (iv (x1 + 1)), some (iv ((B 15 (x1 + 1)) - 48)), some (iv (B 49 (2 * ((B 15 (x1 + 1)) - 48))))]) (ck_at dt_substitute 60 rfl) rfl (fun _ => rfl) (fun _ _ => rfl) rfl nl_substitute (by decide) rfl rfl ?_
            exact z_wk w ⟨rfl, ⟨rfl, ⟨rfl, ⟨rfl, trivial⟩⟩⟩⟩
          · intro q; have w := w.2 q
            refine z_goto (t := 132) (ck_at dt_substitute 53 rfl) rfl ?_
            exact z_wk (r_substitute_132_ok hm w) ⟨rfl, ⟨rfl, trivial⟩⟩
      · intro q; have w := w.2 q
        refine z_ldk (ok := q_isA) (n := 0) (ck_at dt_substitute 26 rfl) rfl rfl (fun _ => rfl) rfl rfl ?_
        refine z_op (ck_at dt_substitute 27 rfl) rfl (o_bipush _ (by decide)) ?_
        refine z_virt (k' := k_say) (n := 0) (as := [iv 36]) (r := []) (ck_at dt_substitute 28 rfl) own_substitute (mm_at 51 rfl) vk_say rfl nl_say rfl rfl rfl rfl ?_
        exact w.mono (Nat.le_refl _) (fun o B' ⟨ho, w⟩ => ⟨none, ho, z_wk (r_substitute_54_ok hm w) ⟨rfl, ⟨rfl, trivial⟩⟩⟩)
    · intro q; have w := w.2 q
      refine z_ldk (ok := q_isA) (n := 0) (ck_at dt_substitute 12 rfl) rfl rfl (fun _ => rfl) rfl rfl ?_
      refine z_ldk (ok := q_isA) (n := 0) (ck_at dt_substitute 13 rfl) rfl rfl (fun _ => rfl) rfl rfl ?_
      refine z_getR (j := 15) (a := 11) (ck_at dt_substitute 14 rfl) own_substitute (mf_at 12 rfl) (by decide) rfl rfl ?_
      refine z_ldk (ok := q_isI) (n := 1) (ck_at dt_substitute 15 rfl) rfl rfl (fun _ => rfl) rfl rfl ?_
      refine z_iald (j := 15) (n := 1200) (ck_at dt_substitute 16 rfl) rfl rfl rfl p3 p4 ?_
      refine z_virt (k' := k_say) (n := 0) (as := [iv (B 15 x1)]) (r := []) (ck_at dt_substitute 17 rfl) own_substitute (mm_at 51 rfl) vk_say rfl nl_say rfl rfl rfl rfl ?_
      exact w.mono (Nat.le_refl _) (fun o B' ⟨ho, w⟩ => ⟨none, ho, z_wk (r_substitute_31_ok hm w) ⟨rfl, ⟨rfl, trivial⟩⟩⟩)
def r_substitute_0 (m : Nat) (h0 : qH) (d : Nat) (B : qB) (Q : qO → qB → Prop) : Prop := qZ m h0 (d + 1) k_substitute 2 [some (.ref m), some (iv 0), none, none] [] B Q
theorem r_substitute_0_ok {m : Nat} {h0 : qH} {d : Nat} {B : qB} {Q : qO → qB → Prop} (hm : m + 100 < 1000000000) (w : r_substitute_0 m h0 d B Q) : qZ m h0 (d + 1) k_substitute 0 [some (.ref m), none, none, none] [] B Q := by
  unfold r_substitute_0 at w
  refine z_op (ck_at dt_substitute 0 rfl) rfl (o_const _) ?_
  refine z_st1 (ok := q_isI) (n := 1) (L' := [some (.ref m), some (iv 0), none, none]) (ck_at dt_substitute 1 rfl) rfl (fun _ => rfl) (fun _ _ => rfl) rfl nl_substitute (by decide) rfl rfl ?_
  exact z_wk w ⟨rfl, ⟨rfl, trivial⟩⟩
/-! replace(II)I -/
def t_replace : List (Nat × Instr × Nat) := [(0, .aload_n 0, 1), (1, .invokevirtual 277, 3), (4, .aload_n 0, 1), (5, .iconst (-1), 1), (6, .putfield 13, 3), (9, .iload_n 1, 1), (10, .iconst 0, 1), (11, .bipush 7, 2), (13, .invokestatic 170, 3), (16, .ifCond .eq 12, 3), (19, .iload_n 2, 1), (20, .iconst 0, 1), (21, .iconst 3, 1), (22, .invokestatic 170, 3), (25, .ifCond .ne 9, 3), (28, .aload_n 0, 1), (29, .iconst 1, 1), (30, .invokevirtual 162, 3), (33, .ireturn, 1), (34, .aload_n 0, 1), (35, .getfield 23, 3), (38, .iload_n 1, 1), (39, .iaload, 1), (40, .ifCond .ne 9, 3), (43, .aload_n 0, 1), (44, .iconst 2, 1), (45, .invokevirtual 162, 3), (48, .ireturn, 1), (49, .aload_n 0, 1), (50, .getfield 32, 3), (53, .iload_n 2, 1), (54, .iaload, 1), (55, .sipush 300, 3), (58, .if_icmp .le 9, 3), (61, .aload_n 0, 1), (62, .iconst 5, 1), (63, .invokevirtual 162, 3), (66, .ireturn, 1), (67, .iconst 0, 1), (68, .istore_n 3, 1), (69, .iload_n 3, 1), (70, .aload_n 0, 1), (71, .getfield 174, 3), (74, .if_icmp .ge 92, 3), (77, .aload_n 0, 1), (78, .getfield 47, 3), (81, .iload_n 3, 1), (82, .iaload, 1), (83, .bipush 36, 2), (85, .if_icmp .eq 6, 3), (88, .goto 72, 3), (91, .iload_n 3, 1), (92, .iconst 1, 1), (93, .iadd, 1), (94, .aload_n 0, 1), (95, .getfield 174, 3), (98, .if_icmp .ge 38, 3), (101, .aload_n 0, 1), (102, .getfield 47, 3), (105, .iload_n 3, 1), (106, .iconst 1, 1), (107, .iadd, 1), (108, .iaload, 1), (109, .bipush 36, 2), (111, .if_icmp .eq 21, 3), (114, .aload_n 0, 1), (115, .getfield 47, 3), (118, .iload_n 3, 1), (119, .iconst 1, 1), (120, .iadd, 1), (121, .iaload, 1), (122, .bipush 48, 2), (124, .bipush 57, 2), (126, .invokestatic 170, 3), (129, .ifCond .eq 7, 3), (132, .iconst 1, 1), (133, .goto 4, 3), (136, .iconst 0, 1), (137, .istore 4, 2), (139, .iload 4, 2), (141, .ifCond .ne 16, 3), (144, .aload_n 0, 1), (145, .iload_n 3, 1), (146, .iconst 1, 1), (147, .iadd, 1), (148, .putfield 13, 3), (151, .aload_n 0, 1), (152, .iconst 4, 1), (153, .invokevirtual 162, 3), (156, .ireturn, 1), (157, .iinc 3 1, 3), (160, .iinc 3 1, 3), (163, .goto (-94), 3), (166, .aload_n 0, 1), (167, .iload_n 1, 1), (168, .iload_n 2, 1), (169, .invokevirtual 383, 3), (172, .aload_n 0, 1), (173, .iconst 0, 1), (174, .putfield 392, 3), (177, .aload_n 0, 1), (178, .iconst 0, 1), (179, .putfield 407, 3), (182, .aload_n 0, 1), (183, .iconst 0, 1), (184, .putfield 410, 3), (187, .iconst 0, 1), (188, .istore_n 3, 1), (189, .iconst 0, 1), (190, .istore 4, 2), (192, .iload_n 3, 1), (193, .aload_n 0, 1), (194, .getfield 324, 3), (197, .if_icmp .gt 79, 3), (200, .aload_n 0, 1), (201, .getfield 410, 3), (204, .ifCond .ne 72, 3), (207, .aload_n 0, 1), (208, .iload_n 3, 1), (209, .invokevirtual 398, 3), (212, .ifCond .eq 64, 3), (215, .iload 4, 2), (217, .istore 5, 2), (219, .iload 5, 2), (221, .aload_n 0, 1), (222, .getfield 41, 3), (225, .aload_n 0, 1), (226, .getfield 392, 3), (229, .iconst 1, 1), (230, .isub, 1), (231, .iaload, 1), (232, .if_icmp .ge 19, 3), (235, .aload_n 0, 1), (236, .aload_n 0, 1), (237, .iload 5, 2), (239, .invokevirtual 330, 3), (242, .invokevirtual 413, 3), (245, .iinc 5 1, 3), (248, .goto (-29), 3), (251, .aload_n 0, 1), (252, .invokevirtual 416, 3), (255, .aload_n 0, 1), (256, .getfield 44, 3), (259, .aload_n 0, 1), (260, .getfield 392, 3), (263, .iconst 1, 1), (264, .isub, 1), (265, .iaload, 1), (266, .istore 4, 2), (268, .aload_n 0, 1), (269, .invokevirtual 401, 3), (272, .istore_n 3, 1), (273, .goto (-81), 3), (276, .iload 4, 2), (278, .istore 5, 2), (280, .iload 5, 2), (282, .aload_n 0, 1), (283, .getfield 324, 3), (286, .if_icmp .ge 19, 3), (289, .aload_n 0, 1), (290, .aload_n 0, 1), (291, .iload 5, 2), (293, .invokevirtual 330, 3), (296, .invokevirtual 413, 3), (299, .iinc 5 1, 3), (302, .goto (-22), 3), (305, .aload_n 0, 1), (306, .getfield 410, 3), (309, .ifCond .eq 9, 3), (312, .aload_n 0, 1), (313, .iconst 3, 1), (314, .invokevirtual 162, 3), (317, .ireturn, 1), (318, .aload_n 0, 1), (319, .iconst 0, 1), (320, .putfield 156, 3), (323, .aload_n 0, 1), (324, .invokevirtual 404, 3), (327, .iconst 0, 1), (328, .istore 5, 2), (330, .iload 5, 2), (332, .aload_n 0, 1), (333, .getfield 407, 3), (336, .if_icmp .ge 29, 3), (339, .aload_n 0, 1), (340, .getfield 20, 3), (343, .sipush 1000, 3), (346, .iload_n 2, 1), (347, .imul, 1), (348, .iload 5, 2), (350, .iadd, 1), (351, .aload_n 0, 1), (352, .getfield 153, 3), (355, .iload 5, 2), (357, .iaload, 1), (358, .iastore, 1), (359, .iinc 5 1, 3), (362, .goto (-32), 3), (365, .aload_n 0, 1), (366, .getfield 32, 3), (369, .iload_n 2, 1), (370, .aload_n 0, 1), (371, .getfield 407, 3), (374, .iastore, 1), (375, .aload_n 0, 1), (376, .getfield 407, 3), (379, .ireturn, 1)]
set_option maxRecDepth 100000 in
theorem dt_replace : q_ck k_replace t_replace = true := by decide +kernel
def r_replace_330 (m : Nat) (h0 : qH) (d : Nat) (x2 x5 : Int) (B : qB) (Q : qO → qB → Prop) : Prop := R32 x5 ∧ R32 (B 74 0) ∧ (x5 ≥ B 74 0 → 0 ≤ x2 ∧ x2 < 4 ∧ Q (.inl (some (iv (B 74 0)))) (u2 B 9 x2 (B 74 0))) ∧ (x5 < B 74 0 → 0 ≤ x5 ∧ x5 < 1000 ∧ 0 ≤ (1000 * x2) + x5 ∧ (1000 * x2) + x5 < 4000 ∧ qZ m h0 (d + 1) k_replace 330 [some (.ref m), none, some (iv x2), none, none, some (iv (x5 + 1))] [] (u2 B 5 ((1000 * x2) + x5) (B 73 x5)) Q)
theorem r_replace_330_ok {m : Nat} {h0 : qH} {d : Nat} {x2 x5 : Int} {B : qB} {Q : qO → qB → Prop} (hm : m + 100 < 1000000000) (w : r_replace_330 m h0 d x2 x5 B Q) : qZ m h0 (d + 1) k_replace 330 [some (.ref m), none, some (iv x2), none, none, some (iv x5)] [] B Q := by
  unfold r_replace_330 at w
  obtain ⟨p1, p2, w⟩ := w
  refine z_ldk (ok := q_isI) (n := 5) (ck_at dt_replace 180 rfl) rfl rfl (fun _ => rfl) rfl rfl ?_
  refine z_ldk (ok := q_isA) (n := 0) (ck_at dt_replace 181 rfl) rfl rfl (fun _ => rfl) rfl rfl ?_
  refine z_getI (j := 74) (ck_at dt_replace 182 rfl) own_replace (mf_at 74 rfl) (by decide) rfl ?_
  refine z_icmp (t := 365) (ck_at dt_replace 183 rfl) rfl p1 p2 ?_ ?_
  · intro q; have w := w.1 q
    obtain ⟨p3, p4, w⟩ := w
    refine z_ldk (ok := q_isA) (n := 0) (ck_at dt_replace 198 rfl) rfl rfl (fun _ => rfl) rfl rfl ?_
    refine z_getR (j := 9) (a := 6) (ck_at dt_replace 199 rfl) own_replace (mf_at 7 rfl) (by decide) rfl rfl ?_
    refine z_ldk (ok := q_isI) (n := 2) (ck_at dt_replace 200 rfl) rfl rfl (fun _ => rfl) rfl rfl ?_
    refine z_ldk (ok := q_isA) (n := 0) (ck_at dt_replace 201 rfl) rfl rfl (fun _ => rfl) rfl rfl ?_
    refine z_getI (j := 74) (ck_at dt_replace 202 rfl) own_replace (mf_at 74 rfl) (by decide) rfl ?_
    refine z_iast (j := 9) (n := 4) hm (ck_at dt_replace 203 rfl) rfl rfl rfl p3 p4 ?_
    refine z_ldk (ok := q_isA) (n := 0) (ck_at dt_replace 204 rfl) rfl rfl (fun _ => rfl) rfl rfl ?_
    refine z_getI (j := 74) (ck_at dt_replace 205 rfl) own_replace (mf_at 74 rfl) (by decide) rfl ?_
    exact z_retI (ck_at dt_replace 206 rfl) rt_replace w
  · intro q; have w := w.2 q
    obtain ⟨p5, p6, p7, p8, w⟩ := w
    refine z_ldk (ok := q_isA) (n := 0) (ck_at dt_replace 184 rfl) rfl rfl (fun _ => rfl) rfl rfl ?_
    refine z_getR (j := 5) (a := 2) (ck_at dt_replace 185 rfl) own_replace (mf_at 3 rfl) (by decide) rfl rfl ?_
    refine z_op (ck_at dt_replace 186 rfl) rfl (o_sipush _ (by decide)) ?_
    refine z_ldk (ok := q_isI) (n := 2) (ck_at dt_replace 187 rfl) rfl rfl (fun _ => rfl) rfl rfl ?_
    refine z_op (ck_at dt_replace 188 rfl) rfl o_imul ?_
    refine z_ldk (ok := q_isI) (n := 5) (ck_at dt_replace 189 rfl) rfl rfl (fun _ => rfl) rfl rfl ?_
    refine z_op (ck_at dt_replace 190 rfl) rfl o_iadd ?_
    refine z_ldk (ok := q_isA) (n := 0) (ck_at dt_replace 191 rfl) rfl rfl (fun _ => rfl) rfl rfl ?_
    refine z_getR (j := 73) (a := 45) (ck_at dt_replace 192 rfl) own_replace (mf_at 46 rfl) (by decide) rfl rfl ?_
    refine z_ldk (ok := q_isI) (n := 5) (ck_at dt_replace 193 rfl) rfl rfl (fun _ => rfl) rfl rfl ?_
    refine z_iald (j := 73) (n := 1000) (ck_at dt_replace 194 rfl) rfl rfl rfl p5 p6 ?_
    refine z_iast (j := 5) (n := 4000) hm (ck_at dt_replace 195 rfl) rfl rfl rfl p7 p8 ?_
    refine z_iinc (n := 5) (L' := [some (.ref m), none, some (iv x2), none, none, some (iv (x5 + 1))]) (ck_at dt_replace 196 rfl) rfl nl_replace (by decide) trivial rfl ?_
    refine z_goto (t := 330) (ck_at dt_replace 197 rfl) rfl ?_
    exact z_wk w ⟨rfl, ⟨rfl, ⟨rfl, trivial⟩⟩⟩
def r_replace_327 (m : Nat) (h0 : qH) (d : Nat) (x2 : Int) (B : qB) (Q : qO → qB → Prop) : Prop := qZ m h0 (d + 1) k_replace 330 [some (.ref m), none, some (iv x2), none, none, some (iv 0)] [] B Q
theorem r_replace_327_ok {m : Nat} {h0 : qH} {d : Nat} {x2 : Int} {B : qB} {Q : qO → qB → Prop} (hm : m + 100 < 1000000000) (w : r_replace_327 m h0 d x2 B Q) : qZ m h0 (d + 1) k_replace 327 [some (.ref m), none, some (iv x2), none, none, none] [] B Q := by
  unfold r_replace_327 at w
  refine z_op (ck_at dt_replace 178 rfl) rfl (o_const _) ?_
  refine z_st1 (ok := q_isI) (n := 5) (L' := [some (.ref m), none, some (iv x2), none, none, some (iv 0)]) (ck_at dt_replace 179 rfl) rfl (fun _ => rfl) (fun _ _ => rfl) rfl nl_replace (by decide) trivial rfl ?_
  exact z_wk w ⟨rfl, ⟨rfl, ⟨rfl, trivial⟩⟩⟩
def r_replace_317 (m : Nat) (h0 : qH) (d : Nat) (s0 : Int) (B : qB) (Q : qO → qB → Prop) : Prop := Q (.inl (some (iv s0))) B
theorem r_replace_317_ok {m : Nat} {h0 : qH} {d : Nat} {s0 : Int} {B : qB} {Q : qO → qB → Prop} (hm : m + 100 < 1000000000) (w : r_replace_317 m h0 d s0 B Q) : qZ m h0 (d + 1) k_replace 317 [none, none, none, none, none, none] [iv s0] B Q := by
  unfold r_replace_317 at w
  exact z_retI (ck_at dt_replace 172 rfl) rt_replace w
def r_replace_299 (m : Nat) (h0 : qH) (d : Nat) (x2 x5 : Int) (B : qB) (Q : qO → qB → Prop) : Prop := qZ m h0 (d + 1) k_replace 280 [some (.ref m), none, some (iv x2), none, none, some (iv (x5 + 1))] [] B Q
theorem r_replace_299_ok {m : Nat} {h0 : qH} {d : Nat} {x2 x5 : Int} {B : qB} {Q : qO → qB → Prop} (hm : m + 100 < 1000000000) (w : r_replace_299 m h0 d x2 x5 B Q) : qZ m h0 (d + 1) k_replace 299 [some (.ref m), none, some (iv x2), none, none, some (iv x5)] [] B Q := by
  unfold r_replace_299 at w
  refine z_iinc (n := 5) (L' := [some (.ref m), none, some (iv x2), none, none, some (iv (x5 + 1))]) (ck_at dt_replace 164 rfl) rfl nl_replace (by decide) trivial rfl ?_
  refine z_goto (t := 280) (ck_at dt_replace 165 rfl) rfl ?_
  exact z_wk w ⟨rfl, ⟨rfl, ⟨rfl, trivial⟩⟩⟩
def r_replace_296 (m : Nat) (h0 : qH) (d : Nat) (x2 x5 s1 : Int) (B : qB) (Q : qO → qB → Prop) : Prop := qZ m h0 d k_say 0 [some (.ref m), some (iv s1)] [] B (fun o B' => o = .inl none ∧ r_replace_299 m h0 d x2 x5 B' Q)
theorem r_replace_296_ok {m : Nat} {h0 : qH} {d : Nat} {x2 x5 s1 : Int} {B : qB} {Q : qO → qB → Prop} (hm : m + 100 < 1000000000) (w : r_replace_296 m h0 d x2 x5 s1 B Q) : qZ m h0 (d + 1) k_replace 296 [some (.ref m), none, some (iv x2), none, none, some (iv x5)] [iv s1, .ref m] B Q := by
  unfold r_replace_296 at w
  refine z_virt (k' := k_say) (n := 0) (as := [iv s1]) (r := []) (ck_at dt_replace 163 rfl) own_replace (mm_at 51 rfl) vk_say rfl nl_say rfl rfl rfl rfl ?_
  exact w.mono (Nat.le_refl _) (fun o B' ⟨ho, w⟩ => ⟨none, ho, z_wk (r_replace_299_ok hm w) ⟨rfl, ⟨rfl, ⟨rfl, trivial⟩⟩⟩⟩)
def r_replace_280 (m : Nat) (h0 : qH) (d : Nat) (x2 x5 : Int) (B : qB) (Q : qO → qB → Prop) : Prop := R32 x5 ∧ R32 (B 57 0) ∧ (x5 ≥ B 57 0 → R32 (B 75 0) ∧ (B 75 0 = 0 → qZ m h0 d k_keepFound 0 [some (.ref m), none] [] (u2 B 0 0 0) (fun o B' => o = .inl none ∧ r_replace_327 m h0 d x2 B' Q)) ∧ (¬ B 75 0 = 0 → qZ m h0 d k_refuse 0 [some (.ref m), some (iv 3)] [] B (fun o B' => ∃ v : Int, o = .inl (some (iv v)) ∧ r_replace_317 m h0 d v B' Q))) ∧ (x5 < B 57 0 → qZ m h0 d k_byteAt 0 [some (.ref m), some (iv x5)] [] B (fun o B' => ∃ v : Int, o = .inl (some (iv v)) ∧ r_replace_296 m h0 d x2 x5 v B' Q))
theorem r_replace_280_ok {m : Nat} {h0 : qH} {d : Nat} {x2 x5 : Int} {B : qB} {Q : qO → qB → Prop} (hm : m + 100 < 1000000000) (w : r_replace_280 m h0 d x2 x5 B Q) : qZ m h0 (d + 1) k_replace 280 [some (.ref m), none, some (iv x2), none, none, some (iv x5)] [] B Q := by
  unfold r_replace_280 at w
  obtain ⟨p1, p2, w⟩ := w
  refine z_ldk (ok := q_isI) (n := 5) (ck_at dt_replace 155 rfl) rfl rfl (fun _ => rfl) rfl rfl ?_
  refine z_ldk (ok := q_isA) (n := 0) (ck_at dt_replace 156 rfl) rfl rfl (fun _ => rfl) rfl rfl ?_
  refine z_getI (j := 57) (ck_at dt_replace 157 rfl) own_replace (mf_at 66 rfl) (by decide) rfl ?_
  refine z_icmp (t := 305) (ck_at dt_replace 158 rfl) rfl p1 p2 ?_ ?_
  · intro q; have w := w.1 q
    obtain ⟨p3, w⟩ := w
    refine z_ldk (ok := q_isA) (n := 0) (ck_at dt_replace 166 rfl) rfl rfl (fun _ => rfl) rfl rfl ?_
    refine z_getI (j := 75) (ck_at dt_replace 167 rfl) own_replace (mf_at 75 rfl) (by decide) rfl ?_
    refine z_ifz (t := 318) (ck_at dt_replace 168 rfl) rfl p3 ?_ ?_
    · intro q; have w := w.1 q
      refine z_ldk (ok := q_isA) (n := 0) (ck_at dt_replace 173 rfl) rfl rfl (fun _ => rfl) rfl rfl ?_
      refine z_op (ck_at dt_replace 174 rfl) rfl (o_const _) ?_
      refine z_putI (j := 0) hm (ck_at dt_replace 175 rfl) own_replace (mf_at 47 rfl) (by decide) rfl rfl rfl ?_
      refine z_ldk (ok := q_isA) (n := 0) (ck_at dt_replace 176 rfl) rfl rfl (fun _ => rfl) rfl rfl ?_
      refine z_virt (k' := k_keepFound) (n := 1) (as := []) (r := []) (ck_at dt_replace 177 rfl) own_replace (mm_at 50 rfl) vk_keepFound rfl nl_keepFound rfl rfl rfl rfl ?_
      exact w.mono (Nat.le_refl _) (fun o B' ⟨ho, w⟩ => ⟨none, ho, z_wk (r_replace_327_ok hm w) ⟨rfl, ⟨rfl, trivial⟩⟩⟩)
    · intro q; have w := w.2 q
      refine z_ldk (ok := q_isA) (n := 0) (ck_at dt_replace 169 rfl) rfl rfl (fun _ => rfl) rfl rfl ?_
      refine z_op (ck_at dt_replace 170 rfl) rfl (o_const _) ?_
      refine z_virt (k' := k_refuse) (n := 0) (as := [iv 3]) (r := []) (ck_at dt_replace 171 rfl) own_replace (mm_at 0 rfl) vk_refuse rfl nl_refuse rfl rfl rfl rfl ?_
      exact w.mono (Nat.le_refl _) (fun o B' ⟨v, ho, w⟩ => ⟨some (iv v), ho, z_wk (r_replace_317_ok hm w) trivial⟩)
  · intro q; have w := w.2 q
    refine z_ldk (ok := q_isA) (n := 0) (ck_at dt_replace 159 rfl) rfl rfl (fun _ => rfl) rfl rfl ?_
    refine z_ldk (ok := q_isA) (n := 0) (ck_at dt_replace 160 rfl) rfl rfl (fun _ => rfl) rfl rfl ?_
    refine z_ldk (ok := q_isI) (n := 5) (ck_at dt_replace 161 rfl) rfl rfl (fun _ => rfl) rfl rfl ?_
    refine z_virt (k' := k_byteAt) (n := 0) (as := [iv x5]) (r := [.ref m]) (ck_at dt_replace 162 rfl) own_replace (mm_at 43 rfl) vk_byteAt rfl nl_byteAt rfl rfl rfl rfl ?_
    exact w.mono (Nat.le_refl _) (fun o B' ⟨v, ho, w⟩ => ⟨some (iv v), ho, z_wk (r_replace_296_ok hm w) ⟨rfl, ⟨rfl, ⟨rfl, trivial⟩⟩⟩⟩)
def r_replace_276 (m : Nat) (h0 : qH) (d : Nat) (x2 x4 : Int) (B : qB) (Q : qO → qB → Prop) : Prop := qZ m h0 (d + 1) k_replace 280 [some (.ref m), none, some (iv x2), none, none, some (iv x4)] [] B Q
theorem r_replace_276_ok {m : Nat} {h0 : qH} {d : Nat} {x2 x4 : Int} {B : qB} {Q : qO → qB → Prop} (hm : m + 100 < 1000000000) (w : r_replace_276 m h0 d x2 x4 B Q) : qZ m h0 (d + 1) k_replace 276 [some (.ref m), none, some (iv x2), none, some (iv x4), none] [] B Q := by
  unfold r_replace_276 at w
  refine z_ldk (ok := q_isI) (n := 4) (ck_at dt_replace 153 rfl) rfl rfl (fun _ => rfl) rfl rfl ?_
  refine z_st1 (ok := q_isI) (n := 5) (L' := [some (.ref m), none, some (iv x2), none, some (iv x4), some (iv x4)]) (ck_at dt_replace 154 rfl) rfl (fun _ => rfl) (fun _ _ => rfl) rfl nl_replace (by decide) rfl rfl ?_
  exact z_wk w ⟨rfl, ⟨rfl, ⟨rfl, trivial⟩⟩⟩
def r_replace_272 (m : Nat) (h0 : qH) (d : Nat) (x2 x4 s0 : Int) (B : qB) (Q : qO → qB → Prop) : Prop := qZ m h0 (d + 1) k_replace 192 [some (.ref m), none, some (iv x2), some (iv s0), some (iv x4), none] [] B Q
theorem r_replace_272_ok {m : Nat} {h0 : qH} {d : Nat} {x2 x4 s0 : Int} {B : qB} {Q : qO → qB → Prop} (hm : m + 100 < 1000000000) (w : r_replace_272 m h0 d x2 x4 s0 B Q) : qZ m h0 (d + 1) k_replace 272 [some (.ref m), none, some (iv x2), none, some (iv x4), none] [iv s0] B Q := by
  unfold r_replace_272 at w
  refine z_st1 (ok := q_isI) (n := 3) (L' := [some (.ref m), none, some (iv x2), some (iv s0), some (iv x4), none]) (ck_at dt_replace 151 rfl) rfl (fun _ => rfl) (fun _ _ => rfl) rfl nl_replace (by decide) rfl rfl ?_
  refine z_goto (t := 192) (ck_at dt_replace 152 rfl) rfl ?_
  exact z_wk w ⟨rfl, ⟨rfl, ⟨rfl, ⟨rfl, trivial⟩⟩⟩⟩
def r_replace_255 (m : Nat) (h0 : qH) (d : Nat) (x2 : Int) (B : qB) (Q : qO → qB → Prop) : Prop := 0 ≤ (B 72 0) - 1 ∧ (B 72 0) - 1 < 1001 ∧ qZ m h0 d k_behindLast 0 [some (.ref m)] [] B (fun o B' => ∃ v : Int, o = .inl (some (iv v)) ∧ r_replace_272 m h0 d x2 (B 13 ((B 72 0) - 1)) v B' Q)
theorem r_replace_255_ok {m : Nat} {h0 : qH} {d : Nat} {x2 : Int} {B : qB} {Q : qO → qB → Prop} (hm : m + 100 < 1000000000) (w : r_replace_255 m h0 d x2 B Q) : qZ m h0 (d + 1) k_replace 255 [some (.ref m), none, some (iv x2), none, none, none] [] B Q := by
  unfold r_replace_255 at w
  obtain ⟨p1, p2, w⟩ := w
  refine z_ldk (ok := q_isA) (n := 0) (ck_at dt_replace 141 rfl) rfl rfl (fun _ => rfl) rfl rfl ?_
  refine z_getR (j := 13) (a := 10) (ck_at dt_replace 142 rfl) own_replace (mf_at 11 rfl) (by decide) rfl rfl ?_
  refine z_ldk (ok := q_isA) (n := 0) (ck_at dt_replace 143 rfl) rfl rfl (fun _ => rfl) rfl rfl ?_
  refine z_getI (j := 72) (ck_at dt_replace 144 rfl) own_replace (mf_at 72 rfl) (by decide) rfl ?_
  refine z_op (ck_at dt_replace 145 rfl) rfl (o_const _) ?_
  refine z_op (ck_at dt_replace 146 rfl) rfl o_isub ?_
  refine z_iald (j := 13) (n := 1001) (ck_at dt_replace 147 rfl) rfl rfl rfl p1 p2 ?_
  refine z_st1 (ok := q_isI) (n := 4) (L' := [some (.ref m), none, some (iv x2), none, some (iv (B 13 ((B 72 0) - 1))), none]) (ck_at dt_replace 148 rfl) rfl (fun _ => rfl) (fun _ _ => rfl) rfl nl_replace (by decide) trivial rfl ?_
  refine z_ldk (ok := q_isA) (n := 0) (ck_at dt_replace 149 rfl) rfl rfl (fun _ => rfl) rfl rfl ?_
  refine z_virt (k' := k_behindLast) (n := 0) (as := []) (r := []) (ck_at dt_replace 150 rfl) own_replace (mm_at 49 rfl) vk_behindLast rfl nl_behindLast rfl rfl rfl rfl ?_
  exact w.mono (Nat.le_refl _) (fun o B' ⟨v, ho, w⟩ => ⟨some (iv v), ho, z_wk (r_replace_272_ok hm w) ⟨rfl, ⟨rfl, ⟨rfl, trivial⟩⟩⟩⟩)
def r_replace_245 (m : Nat) (h0 : qH) (d : Nat) (x2 x5 : Int) (B : qB) (Q : qO → qB → Prop) : Prop := qZ m h0 (d + 1) k_replace 219 [some (.ref m), none, some (iv x2), none, none, some (iv (x5 + 1))] [] B Q
theorem r_replace_245_ok {m : Nat} {h0 : qH} {d : Nat} {x2 x5 : Int} {B : qB} {Q : qO → qB → Prop} (hm : m + 100 < 1000000000) (w : r_replace_245 m h0 d x2 x5 B Q) : qZ m h0 (d + 1) k_replace 245 [some (.ref m), none, some (iv x2), none, none, some (iv x5)] [] B Q := by
  unfold r_replace_245 at w
  refine z_iinc (n := 5) (L' := [some (.ref m), none, some (iv x2), none, none, some (iv (x5 + 1))]) (ck_at dt_replace 137 rfl) rfl nl_replace (by decide) trivial rfl ?_
  refine z_goto (t := 219) (ck_at dt_replace 138 rfl) rfl ?_
  exact z_wk w ⟨rfl, ⟨rfl, ⟨rfl, trivial⟩⟩⟩
def r_replace_242 (m : Nat) (h0 : qH) (d : Nat) (x2 x5 s1 : Int) (B : qB) (Q : qO → qB → Prop) : Prop := qZ m h0 d k_say 0 [some (.ref m), some (iv s1)] [] B (fun o B' => o = .inl none ∧ r_replace_245 m h0 d x2 x5 B' Q)
theorem r_replace_242_ok {m : Nat} {h0 : qH} {d : Nat} {x2 x5 s1 : Int} {B : qB} {Q : qO → qB → Prop} (hm : m + 100 < 1000000000) (w : r_replace_242 m h0 d x2 x5 s1 B Q) : qZ m h0 (d + 1) k_replace 242 [some (.ref m), none, some (iv x2), none, none, some (iv x5)] [iv s1, .ref m] B Q := by
  unfold r_replace_242 at w
  refine z_virt (k' := k_say) (n := 0) (as := [iv s1]) (r := []) (ck_at dt_replace 136 rfl) own_replace (mm_at 51 rfl) vk_say rfl nl_say rfl rfl rfl rfl ?_
  exact w.mono (Nat.le_refl _) (fun o B' ⟨ho, w⟩ => ⟨none, ho, z_wk (r_replace_245_ok hm w) ⟨rfl, ⟨rfl, ⟨rfl, trivial⟩⟩⟩⟩)
def r_replace_219 (m : Nat) (h0 : qH) (d : Nat) (x2 x5 : Int) (B : qB) (Q : qO → qB → Prop) : Prop := 0 ≤ (B 72 0) - 1 ∧ (B 72 0) - 1 < 1001 ∧ R32 x5 ∧ R32 (B 12 ((B 72 0) - 1)) ∧ (x5 ≥ B 12 ((B 72 0) - 1) → qZ m h0 d k_substitute 0 [some (.ref m), none, none, none] [] B (fun o B' => o = .inl none ∧ r_replace_255 m h0 d x2 B' Q)) ∧ (x5 < B 12 ((B 72 0) - 1) → qZ m h0 d k_byteAt 0 [some (.ref m), some (iv x5)] [] B (fun o B' => ∃ v : Int, o = .inl (some (iv v)) ∧ r_replace_242 m h0 d x2 x5 v B' Q))
theorem r_replace_219_ok {m : Nat} {h0 : qH} {d : Nat} {x2 x5 : Int} {B : qB} {Q : qO → qB → Prop} (hm : m + 100 < 1000000000) (w : r_replace_219 m h0 d x2 x5 B Q) : qZ m h0 (d + 1) k_replace 219 [some (.ref m), none, some (iv x2), none, none, some (iv x5)] [] B Q := by
  unfold r_replace_219 at w
  obtain ⟨p1, p2, p3, p4, w⟩ := w
  refine z_ldk (ok := q_isI) (n := 5) (ck_at dt_replace 123 rfl) rfl rfl (fun _ => rfl) rfl rfl ?_
  refine z_ldk (ok := q_isA) (n := 0) (ck_at dt_replace 124 rfl) rfl rfl (fun _ => rfl) rfl rfl ?_
  refine z_getR (j := 12) (a := 9) (ck_at dt_replace 125 rfl) own_replace (mf_at 10 rfl) (by decide) rfl rfl ?_
  refine z_ldk (ok := q_isA) (n := 0) (ck_at dt_replace 126 rfl) rfl rfl (fun _ => rfl) rfl rfl ?_
  refine z_getI (j := 72) (ck_at dt_replace 127 rfl) own_replace (mf_at 72 rfl) (by decide) rfl ?_
  refine z_op (ck_at dt_replace 128 rfl) rfl (o_const _) ?_
  refine z_op (ck_at dt_replace 129 rfl) rfl o_isub ?_
  refine z_iald (j := 12) (n := 1001) (ck_at dt_replace 130 rfl) rfl rfl rfl p1 p2 ?_
  refine z_icmp (t := 251) (ck_at dt_replace 131 rfl) rfl p3 p4 ?_ ?_
  · intro q; have w := w.1 q
    refine z_ldk (ok := q_isA) (n := 0) (ck_at dt_replace 139 rfl) rfl rfl (fun _ => rfl) rfl rfl ?_
    refine z_virt (k' := k_substitute) (n := 3) (as := []) (r := []) (ck_at dt_replace 140 rfl) own_replace (mm_at 52 rfl) vk_substitute rfl nl_substitute rfl rfl rfl rfl ?_
    exact w.mono (Nat.le_refl _) (fun o B' ⟨ho, w⟩ => ⟨none, ho, z_wk (r_replace_255_ok hm w) ⟨rfl, ⟨rfl, trivial⟩⟩⟩)
  · intro q; have w := w.2 q
    refine z_ldk (ok := q_isA) (n := 0) (ck_at dt_replace 132 rfl) rfl rfl (fun _ => rfl) rfl rfl ?_
    refine z_ldk (ok := q_isA) (n := 0) (ck_at dt_replace 133 rfl) rfl rfl (fun _ => rfl) rfl rfl ?_
    refine z_ldk (ok := q_isI) (n := 5) (ck_at dt_replace 134 rfl) rfl rfl (fun _ => rfl) rfl rfl ?_
    refine z_virt (k' := k_byteAt) (n := 0) (as := [iv x5]) (r := [.ref m]) (ck_at dt_replace 135 rfl) own_replace (mm_at 43 rfl) vk_byteAt rfl nl_byteAt rfl rfl rfl rfl ?_
    exact w.mono (Nat.le_refl _) (fun o B' ⟨v, ho, w⟩ => ⟨some (iv v), ho, z_wk (r_replace_242_ok hm w) ⟨rfl, ⟨rfl, ⟨rfl, trivial⟩⟩⟩⟩)
def r_replace_212 (m : Nat) (h0 : qH) (d : Nat) (x2 x4 s0 : Int) (B : qB) (Q : qO → qB → Prop) : Prop := R32 s0 ∧ (s0 = 0 → r_replace_276 m h0 d x2 x4 B Q) ∧ (¬ s0 = 0 → qZ m h0 (d + 1) k_replace 219 [some (.ref m), none, some (iv x2), none, none, some (iv x4)] [] B Q)
theorem r_replace_212_ok {m : Nat} {h0 : qH} {d : Nat} {x2 x4 s0 : Int} {B : qB} {Q : qO → qB → Prop} (hm : m + 100 < 1000000000) (w : r_replace_212 m h0 d x2 x4 s0 B Q) : qZ m h0 (d + 1) k_replace 212 [some (.ref m), none, some (iv x2), none, some (iv x4), none] [iv s0] B Q := by
  unfold r_replace_212 at w
  obtain ⟨p1, w⟩ := w
  refine z_ifz (t := 276) (ck_at dt_replace 120 rfl) rfl p1 ?_ ?_
  · intro q; have w := w.1 q
    exact z_wk (r_replace_276_ok hm w) ⟨rfl, ⟨rfl, ⟨rfl, trivial⟩⟩⟩
  · intro q; have w := w.2 q
    refine z_ldk (ok := q_isI) (n := 4) (ck_at dt_replace 121 rfl) rfl rfl (fun _ => rfl) rfl rfl ?_
    refine z_st1 (ok := q_isI) (n := 5) (L' := [some (.ref m), none, some (iv x2), none, some (iv x4), some (iv x4)]) (ck_at dt_replace 122 rfl) rfl (fun _ => rfl) (fun _ _ => rfl) rfl nl_replace (by decide) rfl rfl ?_
    exact z_wk w ⟨rfl, ⟨rfl, ⟨rfl, trivial⟩⟩⟩
def r_replace_192 (m : Nat) (h0 : qH) (d : Nat) (x2 x3 x4 : Int) (B : qB) (Q : qO → qB → Prop) : Prop := R32 x3 ∧ R32 (B 57 0) ∧ (x3 > B 57 0 → r_replace_276 m h0 d x2 x4 B Q) ∧ (x3 ≤ B 57 0 → R32 (B 75 0) ∧ (¬ B 75 0 = 0 → r_replace_276 m h0 d x2 x4 B Q) ∧ (B 75 0 = 0 → qZ m h0 d k_nextMatch 0 [some (.ref m), some (iv x3), none, none] [] B (fun o B' => ∃ v : Int, o = .inl (some (iv v)) ∧ r_replace_212 m h0 d x2 x4 v B' Q)))
theorem r_replace_192_ok {m : Nat} {h0 : qH} {d : Nat} {x2 x3 x4 : Int} {B : qB} {Q : qO → qB → Prop} (hm : m + 100 < 1000000000) (w : r_replace_192 m h0 d x2 x3 x4 B Q) : qZ m h0 (d + 1) k_replace 192 [some (.ref m), none, some (iv x2), some (iv x3), some (iv x4), none] [] B Q := by
  unfold r_replace_192 at w
  obtain ⟨p1, p2, w⟩ := w
  refine z_ldk (ok := q_isI) (n := 3) (ck_at dt_replace 110 rfl) rfl rfl (fun _ => rfl) rfl rfl ?_
  refine z_ldk (ok := q_isA) (n := 0) (ck_at dt_replace 111 rfl) rfl rfl (fun _ => rfl) rfl rfl ?_
  refine z_getI (j := 57) (ck_at dt_replace 112 rfl) own_replace (mf_at 66 rfl) (by decide) rfl ?_
  refine z_icmp (t := 276) (ck_at dt_replace 113 rfl) rfl p1 p2 ?_ ?_
  · intro q; have w := w.1 q
    exact z_wk (r_replace_276_ok hm w) ⟨rfl, ⟨rfl, ⟨rfl, trivial⟩⟩⟩
  · intro q; have w := w.2 q
    obtain ⟨p3, w⟩ := w
    refine z_ldk (ok := q_isA) (n := 0) (ck_at dt_replace 114 rfl) rfl rfl (fun _ => rfl) rfl rfl ?_
    refine z_getI (j := 75) (ck_at dt_replace 115 rfl) own_replace (mf_at 75 rfl) (by decide) rfl ?_
    refine z_ifz (t := 276) (ck_at dt_replace 116 rfl) rfl p3 ?_ ?_
    · intro q; have w := w.1 q
      exact z_wk (r_replace_276_ok hm w) ⟨rfl, ⟨rfl, ⟨rfl, trivial⟩⟩⟩
    · intro q; have w := w.2 q
      refine z_ldk (ok := q_isA) (n := 0) (ck_at dt_replace 117 rfl) rfl rfl (fun _ => rfl) rfl rfl ?_
      refine z_ldk (ok := q_isI) (n := 3) (ck_at dt_replace 118 rfl) rfl rfl (fun _ => rfl) rfl rfl ?_
      refine z_virt (k' := k_nextMatch) (n := 2) (as := [iv x3]) (r := []) (ck_at dt_replace 119 rfl) own_replace (mm_at 48 rfl) vk_nextMatch rfl nl_nextMatch rfl rfl rfl rfl ?_
      exact w.mono (Nat.le_refl _) (fun o B' ⟨v, ho, w⟩ => ⟨some (iv v), ho, z_wk (r_replace_212_ok hm w) ⟨rfl, ⟨rfl, ⟨rfl, trivial⟩⟩⟩⟩)
def r_replace_172 (m : Nat) (h0 : qH) (d : Nat) (x2 : Int) (B : qB) (Q : qO → qB → Prop) : Prop := qZ m h0 (d + 1) k_replace 192 [some (.ref m), none, some (iv x2), some (iv 0), some (iv 0), none] [] (u2 (u2 (u2 B 72 0 0) 74 0 0) 75 0 0) Q
theorem r_replace_172_ok {m : Nat} {h0 : qH} {d : Nat} {x2 : Int} {B : qB} {Q : qO → qB → Prop} (hm : m + 100 < 1000000000) (w : r_replace_172 m h0 d x2 B Q) : qZ m h0 (d + 1) k_replace 172 [some (.ref m), none, some (iv x2), none, none, none] [] B Q := by
  unfold r_replace_172 at w
  refine z_ldk (ok := q_isA) (n := 0) (ck_at dt_replace 97 rfl) rfl rfl (fun _ => rfl) rfl rfl ?_
  refine z_op (ck_at dt_replace 98 rfl) rfl (o_const _) ?_
  refine z_putI (j := 72) hm (ck_at dt_replace 99 rfl) own_replace (mf_at 72 rfl) (by decide) rfl rfl rfl ?_
  refine z_ldk (ok := q_isA) (n := 0) (ck_at dt_replace 100 rfl) rfl rfl (fun _ => rfl) rfl rfl ?_
  refine z_op (ck_at dt_replace 101 rfl) rfl (o_const _) ?_
  refine z_putI (j := 74) hm (ck_at dt_replace 102 rfl) own_replace (mf_at 74 rfl) (by decide) rfl rfl rfl ?_
  refine z_ldk (ok := q_isA) (n := 0) (ck_at dt_replace 103 rfl) rfl rfl (fun _ => rfl) rfl rfl ?_
  refine z_op (ck_at dt_replace 104 rfl) rfl (o_const _) ?_
  refine z_putZ (j := 75) hm (ck_at dt_replace 105 rfl) own_replace (mf_at 75 rfl) (by decide) rfl rfl rfl (by decide) ?_
  refine z_op (ck_at dt_replace 106 rfl) rfl (o_const _) ?_
  refine z_st1 (ok := q_isI) (n := 3) (L' := [some (.ref m), none, some (iv x2), some (iv 0), none, none]) (ck_at dt_replace 107 rfl) rfl (fun _ => rfl) (fun _ _ => rfl) rfl nl_replace (by decide) rfl rfl ?_
  refine z_op (ck_at dt_replace 108 rfl) rfl (o_const _) ?_
  refine z_st1 (ok := q_isI) (n := 4) (L' := [some (.ref m), none, some (iv x2), some (iv 0), some (iv 0), none]) (ck_at dt_replace 109 rfl) rfl (fun _ => rfl) (fun _ _ => rfl) rfl nl_replace (by decide) rfl rfl ?_
  exact z_wk w ⟨rfl, ⟨rfl, ⟨rfl, ⟨rfl, trivial⟩⟩⟩⟩
def r_replace_160 (m : Nat) (h0 : qH) (d : Nat) (x1 x2 x3 : Int) (B : qB) (Q : qO → qB → Prop) : Prop := qZ m h0 (d + 1) k_replace 69 [some (.ref m), some (iv x1), some (iv x2), some (iv (x3 + 1)), none, none] [] B Q
theorem r_replace_160_ok {m : Nat} {h0 : qH} {d : Nat} {x1 x2 x3 : Int} {B : qB} {Q : qO → qB → Prop} (hm : m + 100 < 1000000000) (w : r_replace_160 m h0 d x1 x2 x3 B Q) : qZ m h0 (d + 1) k_replace 160 [some (.ref m), some (iv x1), some (iv x2), some (iv x3), none, none] [] B Q := by
  unfold r_replace_160 at w
  refine z_iinc (n := 3) (L' := [some (.ref m), some (iv x1), some (iv x2), some (iv (x3 + 1)), none, none]) (ck_at dt_replace 91 rfl) rfl nl_replace (by decide) rfl rfl ?_
  refine z_goto (t := 69) (ck_at dt_replace 92 rfl) rfl ?_
  exact z_wk w ⟨rfl, ⟨rfl, ⟨rfl, ⟨rfl, trivial⟩⟩⟩⟩
def r_replace_156 (m : Nat) (h0 : qH) (d : Nat) (s0 : Int) (B : qB) (Q : qO → qB → Prop) : Prop := Q (.inl (some (iv s0))) B
theorem r_replace_156_ok {m : Nat} {h0 : qH} {d : Nat} {s0 : Int} {B : qB} {Q : qO → qB → Prop} (hm : m + 100 < 1000000000) (w : r_replace_156 m h0 d s0 B Q) : qZ m h0 (d + 1) k_replace 156 [none, none, none, none, none, none] [iv s0] B Q := by
  unfold r_replace_156 at w
  exact z_retI (ck_at dt_replace 89 rfl) rt_replace w
def r_replace_137 (m : Nat) (h0 : qH) (d : Nat) (x1 x2 x3 s0 : Int) (B : qB) (Q : qO → qB → Prop) : Prop := R32 s0 ∧ (¬ s0 = 0 → r_replace_160 m h0 d x1 x2 (x3 + 1) B Q) ∧ (s0 = 0 → qZ m h0 d k_refuse 0 [some (.ref m), some (iv 4)] [] (u2 B 3 0 (x3 + 1)) (fun o B' => ∃ v : Int, o = .inl (some (iv v)) ∧ r_replace_156 m h0 d v B' Q))
theorem r_replace_137_ok {m : Nat} {h0 : qH} {d : Nat} {x1 x2 x3 s0 : Int} {B : qB} {Q : qO → qB → Prop} (hm : m + 100 < 1000000000) (w : r_replace_137 m h0 d x1 x2 x3 s0 B Q) : qZ m h0 (d + 1) k_replace 137 [some (.ref m), some (iv x1), some (iv x2), some (iv x3), none, none] [iv s0] B Q := by
  unfold r_replace_137 at w
  obtain ⟨p1, w⟩ := w
  refine z_st1 (ok := q_isI) (n := 4) (L' := [some (.ref m), some (iv x1), some (iv x2), some (iv x3), some (iv s0), none]) (ck_at dt_replace 78 rfl) rfl (fun _ => rfl) (fun _ _ => rfl) rfl nl_replace (by decide) rfl rfl ?_
  refine z_ldk (ok := q_isI) (n := 4) (ck_at dt_replace 79 rfl) rfl rfl (fun _ => rfl) rfl rfl ?_
  refine z_ifz (t := 157) (ck_at dt_replace 80 rfl) rfl p1 ?_ ?_
  · intro q; have w := w.1 q
    refine z_iinc (n := 3) (L' := [some (.ref m), some (iv x1), some (iv x2), some (iv (x3 + 1)), some (iv s0), none]) (ck_at dt_replace 90 rfl) rfl nl_replace (by decide) rfl rfl ?_
    exact z_wk (r_replace_160_ok hm w) ⟨rfl, ⟨rfl, ⟨rfl, ⟨rfl, trivial⟩⟩⟩⟩
  · intro q; have w := w.2 q
    refine z_ldk (ok := q_isA) (n := 0) (ck_at dt_replace 81 rfl) rfl rfl (fun _ => rfl) rfl rfl ?_
    refine z_ldk (ok := q_isI) (n := 3) (ck_at dt_replace 82 rfl) rfl rfl (fun _ => rfl) rfl rfl ?_
    refine z_op (ck_at dt_replace 83 rfl) rfl (o_const _) ?_
    refine z_op (ck_at dt_replace 84 rfl) rfl o_iadd ?_
    refine z_putI (j := 3) hm (ck_at dt_replace 85 rfl) own_replace (mf_at 1 rfl) (by decide) rfl rfl rfl ?_
    refine z_ldk (ok := q_isA) (n := 0) (ck_at dt_replace 86 rfl) rfl rfl (fun _ => rfl) rfl rfl ?_
    refine z_op (ck_at dt_replace 87 rfl) rfl (o_const _) ?_
    refine z_virt (k' := k_refuse) (n := 0) (as := [iv 4]) (r := []) (ck_at dt_replace 88 rfl) own_replace (mm_at 0 rfl) vk_refuse rfl nl_refuse rfl rfl rfl rfl ?_
    exact w.mono (Nat.le_refl _) (fun o B' ⟨v, ho, w⟩ => ⟨some (iv v), ho, z_wk (r_replace_156_ok hm w) trivial⟩)
def r_replace_136 (m : Nat) (h0 : qH) (d : Nat) (x1 x2 x3 : Int) (B : qB) (Q : qO → qB → Prop) : Prop := r_replace_137 m h0 d x1 x2 x3 0 B Q
theorem r_replace_136_ok {m : Nat} {h0 : qH} {d : Nat} {x1 x2 x3 : Int} {B : qB} {Q : qO → qB → Prop} (hm : m + 100 < 1000000000) (w : r_replace_136 m h0 d x1 x2 x3 B Q) : qZ m h0 (d + 1) k_replace 136 [some (.ref m), some (iv x1), some (iv x2), some (iv x3), none, none] [] B Q := by
  unfold r_replace_136 at w
  refine z_op (ck_at dt_replace 77 rfl) rfl (o_const _) ?_
  exact z_wk (r_replace_137_ok hm w) ⟨rfl, ⟨rfl, ⟨rfl, ⟨rfl, trivial⟩⟩⟩⟩
def r_replace_132 (m : Nat) (h0 : qH) (d : Nat) (x1 x2 x3 : Int) (B : qB) (Q : qO → qB → Prop) : Prop := r_replace_137 m h0 d x1 x2 x3 1 B Q
theorem r_replace_132_ok {m : Nat} {h0 : qH} {d : Nat} {x1 x2 x3 : Int} {B : qB} {Q : qO → qB → Prop} (hm : m + 100 < 1000000000) (w : r_replace_132 m h0 d x1 x2 x3 B Q) : qZ m h0 (d + 1) k_replace 132 [some (.ref m), some (iv x1), some (iv x2), some (iv x3), none, none] [] B Q := by
  unfold r_replace_132 at w
  refine z_op (ck_at dt_replace 75 rfl) rfl (o_const _) ?_
  refine z_goto (t := 137) (ck_at dt_replace 76 rfl) rfl ?_
  exact z_wk (r_replace_137_ok hm w) ⟨rfl, ⟨rfl, ⟨rfl, ⟨rfl, trivial⟩⟩⟩⟩
def r_replace_129 (m : Nat) (h0 : qH) (d : Nat) (x1 x2 x3 s0 : Int) (B : qB) (Q : qO → qB → Prop) : Prop := R32 s0 ∧ (s0 = 0 → r_replace_136 m h0 d x1 x2 x3 B Q) ∧ (¬ s0 = 0 → r_replace_132 m h0 d x1 x2 x3 B Q)
theorem r_replace_129_ok {m : Nat} {h0 : qH} {d : Nat} {x1 x2 x3 s0 : Int} {B : qB} {Q : qO → qB → Prop} (hm : m + 100 < 1000000000) (w : r_replace_129 m h0 d x1 x2 x3 s0 B Q) : qZ m h0 (d + 1) k_replace 129 [some (.ref m), some (iv x1), some (iv x2), some (iv x3), none, none] [iv s0] B Q := by
  unfold r_replace_129 at w
  obtain ⟨p1, w⟩ := w
  refine z_ifz (t := 136) (ck_at dt_replace 74 rfl) rfl p1 ?_ ?_
  · intro q; have w := w.1 q
    exact z_wk (r_replace_136_ok hm w) ⟨rfl, ⟨rfl, ⟨rfl, ⟨rfl, trivial⟩⟩⟩⟩
  · intro q; have w := w.2 q
    exact z_wk (r_replace_132_ok hm w) ⟨rfl, ⟨rfl, ⟨rfl, ⟨rfl, trivial⟩⟩⟩⟩
def r_replace_69 (m : Nat) (h0 : qH) (d : Nat) (x1 x2 x3 : Int) (B : qB) (Q : qO → qB → Prop) : Prop := R32 x3 ∧ R32 (B 16 0) ∧ (x3 ≥ B 16 0 → qZ m h0 d k_prepare 0 [some (.ref m), some (iv x1), some (iv x2)] [] B (fun o B' => o = .inl none ∧ r_replace_172 m h0 d x2 B' Q)) ∧ (x3 < B 16 0 → 0 ≤ x3 ∧ x3 < 1200 ∧ R32 (B 15 x3) ∧ (B 15 x3 = 36 → R32 (x3 + 1) ∧ (x3 + 1 ≥ B 16 0 → r_replace_136 m h0 d x1 x2 x3 B Q) ∧ (x3 + 1 < B 16 0 → 0 ≤ x3 + 1 ∧ x3 + 1 < 1200 ∧ R32 (B 15 (x3 + 1)) ∧ (B 15 (x3 + 1) = 36 → r_replace_132 m h0 d x1 x2 x3 B Q) ∧ (¬ B 15 (x3 + 1) = 36 → qZ m h0 d k_in 0 [some (iv (B 15 (x3 + 1))), some (iv 48), some (iv 57)] [] B (fun o B' => ∃ v : Int, o = .inl (some (iv v)) ∧ r_replace_129 m h0 d x1 x2 x3 v B' Q)))) ∧ (¬ B 15 x3 = 36 → r_replace_160 m h0 d x1 x2 x3 B Q))
theorem r_replace_69_ok {m : Nat} {h0 : qH} {d : Nat} {x1 x2 x3 : Int} {B : qB} {Q : qO → qB → Prop} (hm : m + 100 < 1000000000) (w : r_replace_69 m h0 d x1 x2 x3 B Q) : qZ m h0 (d + 1) k_replace 69 [some (.ref m), some (iv x1), some (iv x2), some (iv x3), none, none] [] B Q := by
  unfold r_replace_69 at w
  obtain ⟨p1, p2, w⟩ := w
  refine z_ldk (ok := q_isI) (n := 3) (ck_at dt_replace 40 rfl) rfl rfl (fun _ => rfl) rfl rfl ?_
  refine z_ldk (ok := q_isA) (n := 0) (ck_at dt_replace 41 rfl) rfl rfl (fun _ => rfl) rfl rfl ?_
  refine z_getI (j := 16) (ck_at dt_replace 42 rfl) own_replace (mf_at 49 rfl) (by decide) rfl ?_
  refine z_icmp (t := 166) (ck_at dt_replace 43 rfl) rfl p1 p2 ?_ ?_
  · intro q; have w := w.1 q
    refine z_ldk (ok := q_isA) (n := 0) (ck_at dt_replace 93 rfl) rfl rfl (fun _ => rfl) rfl rfl ?_
    refine z_ldk (ok := q_isI) (n := 1) (ck_at dt_replace 94 rfl) rfl rfl (fun _ => rfl) rfl rfl ?_
    refine z_ldk (ok := q_isI) (n := 2) (ck_at dt_replace 95 rfl) rfl rfl (fun _ => rfl) rfl rfl ?_
    refine z_virt (k' := k_prepare) (n := 0) (as := [iv x1, iv x2]) (r := []) (ck_at dt_replace 96 rfl) own_replace (mm_at 26 rfl) vk_prepare rfl nl_prepare rfl rfl rfl rfl ?_
    exact w.mono (Nat.le_refl _) (fun o B' ⟨ho, w⟩ => ⟨none, ho, z_wk (r_replace_172_ok hm w) ⟨rfl, ⟨rfl, trivial⟩⟩⟩)
  · intro q; have w := w.2 q
    obtain ⟨p3, p4, p5, w⟩ := w
    refine z_ldk (ok := q_isA) (n := 0) (ck_at dt_replace 44 rfl) rfl rfl (fun _ => rfl) rfl rfl ?_
    refine z_getR (j := 15) (a := 11) (ck_at dt_replace 45 rfl) own_replace (mf_at 12 rfl) (by decide) rfl rfl ?_
    refine z_ldk (ok := q_isI) (n := 3) (ck_at dt_replace 46 rfl) rfl rfl (fun _ => rfl) rfl rfl ?_
    refine z_iald (j := 15) (n := 1200) (ck_at dt_replace 47 rfl) rfl rfl rfl p3 p4 ?_
    refine z_op (ck_at dt_replace 48 rfl) rfl (o_bipush _ (by decide)) ?_
    refine z_icmp (t := 91) (ck_at dt_replace 49 rfl) rfl p5 ⟨by decide, by decide⟩ ?_ ?_
    · intro q; have w := w.1 q
      obtain ⟨p6, w⟩ := w
      refine z_ldk (ok := q_isI) (n := 3) (ck_at dt_replace 51 rfl) rfl rfl (fun _ => rfl) rfl rfl ?_
      refine z_op (ck_at dt_replace 52 rfl) rfl (o_const _) ?_
      refine z_op (ck_at dt_replace 53 rfl) rfl o_iadd ?_
      refine z_ldk (ok := q_isA) (n := 0) (ck_at dt_replace 54 rfl) rfl rfl (fun _ => rfl) rfl rfl ?_
      refine z_getI (j := 16) (ck_at dt_replace 55 rfl) own_replace (mf_at 49 rfl) (by decide) rfl ?_
      refine z_icmp (t := 136) (ck_at dt_replace 56 rfl) rfl p6 p2 ?_ ?_
      · intro q; have w := w.1 q
        exact z_wk (r_replace_136_ok hm w) ⟨rfl, ⟨rfl, ⟨rfl, ⟨rfl, trivial⟩⟩⟩⟩
      · intro q; have w := w.2 q
        obtain ⟨p7, p8, p9, w⟩ := w
        refine z_ldk (ok := q_isA) (n := 0) (ck_at dt_replace 57 rfl) rfl rfl (fun _ => rfl) rfl rfl ?_
        refine z_getR (j := 15) (a := 11) (ck_at dt_replace 58 rfl) own_replace (mf_at 12 rfl) (by decide) rfl rfl ?_
        refine z_ldk (ok := q_isI) (n := 3) (ck_at dt_replace 59 rfl) rfl rfl (fun _ => rfl) rfl rfl ?_
        refine z_op (ck_at dt_replace 60 rfl) rfl (o_const _) ?_
        refine z_op (ck_at dt_replace 61 rfl) rfl o_iadd ?_
        refine z_iald (j := 15) (n := 1200) (ck_at dt_replace 62 rfl) rfl rfl rfl p7 p8 ?_
        refine z_op (ck_at dt_replace 63 rfl) rfl (o_bipush _ (by decide)) ?_
        refine z_icmp (t := 132) (ck_at dt_replace 64 rfl) rfl p9 ⟨by decide, by decide⟩ ?_ ?_
        · intro q; have w := w.1 q
          exact z_wk (r_replace_132_ok hm w) ⟨rfl, ⟨rfl, ⟨rfl, ⟨rfl, trivial⟩⟩⟩⟩
        · intro q; have w := w.2 q
          refine z_ldk (ok := q_isA) (n := 0) (ck_at dt_replace 65 rfl) rfl rfl (fun _ => rfl) rfl rfl ?_
          refine z_getR (j := 15) (a := 11) (ck_at dt_replace 66 rfl) own_replace (mf_at 12 rfl) (by decide) rfl rfl ?_
          refine z_ldk (ok := q_isI) (n := 3) (ck_at dt_replace 67 rfl) rfl rfl (fun _ => rfl) rfl rfl ?_
          refine z_op (ck_at dt_replace 68 rfl) rfl (o_const _) ?_
          refine z_op (ck_at dt_replace 69 rfl) rfl o_iadd ?_
          refine z_iald (j := 15) (n := 1200) (ck_at dt_replace 70 rfl) rfl rfl rfl p7 p8 ?_
          refine z_op (ck_at dt_replace 71 rfl) rfl (o_bipush _ (by decide)) ?_
          refine z_op (ck_at dt_replace 72 rfl) rfl (o_bipush _ (by decide)) ?_
          refine z_stat (k' := k_in) (n := 0) (as := [iv (B 15 (x3 + 1)), iv 48, iv 57]) (r := []) (ck_at dt_replace 73 rfl) own_replace (mm_at 2 rfl) (ms_at 0 rfl) vk_in rfl nl_in rfl rfl rfl rfl ?_
          exact w.mono (Nat.le_refl _) (fun o B' ⟨v, ho, w⟩ => ⟨some (iv v), ho, z_wk (r_replace_129_ok hm w) ⟨rfl, ⟨rfl, ⟨rfl, ⟨rfl, trivial⟩⟩⟩⟩⟩)
    · intro q; have w := w.2 q
      refine z_goto (t := 160) (ck_at dt_replace 50 rfl) rfl ?_
      exact z_wk (r_replace_160_ok hm w) ⟨rfl, ⟨rfl, ⟨rfl, ⟨rfl, trivial⟩⟩⟩⟩
def r_replace_66 (m : Nat) (h0 : qH) (d : Nat) (s0 : Int) (B : qB) (Q : qO → qB → Prop) : Prop := Q (.inl (some (iv s0))) B
theorem r_replace_66_ok {m : Nat} {h0 : qH} {d : Nat} {s0 : Int} {B : qB} {Q : qO → qB → Prop} (hm : m + 100 < 1000000000) (w : r_replace_66 m h0 d s0 B Q) : qZ m h0 (d + 1) k_replace 66 [none, none, none, none, none, none] [iv s0] B Q := by
  unfold r_replace_66 at w
  exact z_retI (ck_at dt_replace 37 rfl) rt_replace w
def r_replace_48 (m : Nat) (h0 : qH) (d : Nat) (s0 : Int) (B : qB) (Q : qO → qB → Prop) : Prop := Q (.inl (some (iv s0))) B
theorem r_replace_48_ok {m : Nat} {h0 : qH} {d : Nat} {s0 : Int} {B : qB} {Q : qO → qB → Prop} (hm : m + 100 < 1000000000) (w : r_replace_48 m h0 d s0 B Q) : qZ m h0 (d + 1) k_replace 48 [none, none, none, none, none, none] [iv s0] B Q := by
  unfold r_replace_48 at w
  exact z_retI (ck_at dt_replace 27 rfl) rt_replace w
def r_replace_33 (m : Nat) (h0 : qH) (d : Nat) (s0 : Int) (B : qB) (Q : qO → qB → Prop) : Prop := Q (.inl (some (iv s0))) B
theorem r_replace_33_ok {m : Nat} {h0 : qH} {d : Nat} {s0 : Int} {B : qB} {Q : qO → qB → Prop} (hm : m + 100 < 1000000000) (w : r_replace_33 m h0 d s0 B Q) : qZ m h0 (d + 1) k_replace 33 [none, none, none, none, none, none] [iv s0] B Q := by
  unfold r_replace_33 at w
  exact z_retI (ck_at dt_replace 18 rfl) rt_replace w
def r_replace_28 (m : Nat) (h0 : qH) (d : Nat) (B : qB) (Q : qO → qB → Prop) : Prop := qZ m h0 d k_refuse 0 [some (.ref m), some (iv 1)] [] B (fun o B' => ∃ v : Int, o = .inl (some (iv v)) ∧ r_replace_33 m h0 d v B' Q)
theorem r_replace_28_ok {m : Nat} {h0 : qH} {d : Nat} {B : qB} {Q : qO → qB → Prop} (hm : m + 100 < 1000000000) (w : r_replace_28 m h0 d B Q) : qZ m h0 (d + 1) k_replace 28 [some (.ref m), none, none, none, none, none] [] B Q := by
  unfold r_replace_28 at w
  refine z_ldk (ok := q_isA) (n := 0) (ck_at dt_replace 15 rfl) rfl rfl (fun _ => rfl) rfl rfl ?_
  refine z_op (ck_at dt_replace 16 rfl) rfl (o_const _) ?_
  refine z_virt (k' := k_refuse) (n := 0) (as := [iv 1]) (r := []) (ck_at dt_replace 17 rfl) own_replace (mm_at 0 rfl) vk_refuse rfl nl_refuse rfl rfl rfl rfl ?_
  exact w.mono (Nat.le_refl _) (fun o B' ⟨v, ho, w⟩ => ⟨some (iv v), ho, z_wk (r_replace_33_ok hm w) trivial⟩)
def r_replace_25 (m : Nat) (h0 : qH) (d : Nat) (x1 x2 s0 : Int) (B : qB) (Q : qO → qB → Prop) : Prop := R32 s0 ∧ (¬ s0 = 0 → 0 ≤ x1 ∧ x1 < 8 ∧ R32 (B 6 x1) ∧ (¬ B 6 x1 = 0 → 0 ≤ x2 ∧ x2 < 4 ∧ R32 (B 9 x2) ∧ (B 9 x2 ≤ 300 → qZ m h0 (d + 1) k_replace 69 [some (.ref m), some (iv x1), some (iv x2), some (iv 0), none, none] [] B Q) ∧ (B 9 x2 > 300 → qZ m h0 d k_refuse 0 [some (.ref m), some (iv 5)] [] B (fun o B' => ∃ v : Int, o = .inl (some (iv v)) ∧ r_replace_66 m h0 d v B' Q))) ∧ (B 6 x1 = 0 → qZ m h0 d k_refuse 0 [some (.ref m), some (iv 2)] [] B (fun o B' => ∃ v : Int, o = .inl (some (iv v)) ∧ r_replace_48 m h0 d v B' Q))) ∧ (s0 = 0 → r_replace_28 m h0 d B Q)
theorem r_replace_25_ok {m : Nat} {h0 : qH} {d : Nat} {x1 x2 s0 : Int} {B : qB} {Q : qO → qB → Prop} (hm : m + 100 < 1000000000) (w : r_replace_25 m h0 d x1 x2 s0 B Q) : qZ m h0 (d + 1) k_replace 25 [some (.ref m), some (iv x1), some (iv x2), none, none, none] [iv s0] B Q := by
  unfold r_replace_25 at w
  obtain ⟨p1, w⟩ := w
  refine z_ifz (t := 34) (ck_at dt_replace 14 rfl) rfl p1 ?_ ?_
  · intro q; have w := w.1 q
    obtain ⟨p2, p3, p4, w⟩ := w
    refine z_ldk (ok := q_isA) (n := 0) (ck_at dt_replace 19 rfl) rfl rfl (fun _ => rfl) rfl rfl ?_
    refine z_getR (j := 6) (a := 3) (ck_at dt_replace 20 rfl) own_replace (mf_at 4 rfl) (by decide) rfl rfl ?_
    refine z_ldk (ok := q_isI) (n := 1) (ck_at dt_replace 21 rfl) rfl rfl (fun _ => rfl) rfl rfl ?_
    refine z_iald (j := 6) (n := 8) (ck_at dt_replace 22 rfl) rfl rfl rfl p2 p3 ?_
    refine z_ifz (t := 49) (ck_at dt_replace 23 rfl) rfl p4 ?_ ?_
    · intro q; have w := w.1 q
      obtain ⟨p5, p6, p7, w⟩ := w
      refine z_ldk (ok := q_isA) (n := 0) (ck_at dt_replace 28 rfl) rfl rfl (fun _ => rfl) rfl rfl ?_
      refine z_getR (j := 9) (a := 6) (ck_at dt_replace 29 rfl) own_replace (mf_at 7 rfl) (by decide) rfl rfl ?_
      refine z_ldk (ok := q_isI) (n := 2) (ck_at dt_replace 30 rfl) rfl rfl (fun _ => rfl) rfl rfl ?_
      refine z_iald (j := 9) (n := 4) (ck_at dt_replace 31 rfl) rfl rfl rfl p5 p6 ?_
      refine z_op (ck_at dt_replace 32 rfl) rfl (o_sipush _ (by decide)) ?_
      refine z_icmp (t := 67) (ck_at dt_replace 33 rfl) rfl p7 ⟨by decide, by decide⟩ ?_ ?_
      · intro q; have w := w.1 q
        refine z_op (ck_at dt_replace 38 rfl) rfl (o_const _) ?_
        refine z_st1 (ok := q_isI) (n := 3) (L' := [some (.ref m), some (iv x1), some (iv x2), some (iv 0), none, none]) (ck_at dt_replace 39 rfl) rfl (fun _ => rfl) (fun _ _ => rfl) rfl nl_replace (by decide) rfl rfl ?_
        exact z_wk w ⟨rfl, ⟨rfl, ⟨rfl, ⟨rfl, trivial⟩⟩⟩⟩
      · intro q; have w := w.2 q
        refine z_ldk (ok := q_isA) (n := 0) (ck_at dt_replace 34 rfl) rfl rfl (fun _ => rfl) rfl rfl ?_
        refine z_op (ck_at dt_replace 35 rfl) rfl (o_const _) ?_
        refine z_virt (k' := k_refuse) (n := 0) (as := [iv 5]) (r := []) (ck_at dt_replace 36 rfl) own_replace (mm_at 0 rfl) vk_refuse rfl nl_refuse rfl rfl rfl rfl ?_
        exact w.mono (Nat.le_refl _) (fun o B' ⟨v, ho, w⟩ => ⟨some (iv v), ho, z_wk (r_replace_66_ok hm w) trivial⟩)
    · intro q; have w := w.2 q
      refine z_ldk (ok := q_isA) (n := 0) (ck_at dt_replace 24 rfl) rfl rfl (fun _ => rfl) rfl rfl ?_
      refine z_op (ck_at dt_replace 25 rfl) rfl (o_const _) ?_
      refine z_virt (k' := k_refuse) (n := 0) (as := [iv 2]) (r := []) (ck_at dt_replace 26 rfl) own_replace (mm_at 0 rfl) vk_refuse rfl nl_refuse rfl rfl rfl rfl ?_
      exact w.mono (Nat.le_refl _) (fun o B' ⟨v, ho, w⟩ => ⟨some (iv v), ho, z_wk (r_replace_48_ok hm w) trivial⟩)
  · intro q; have w := w.2 q
    exact z_wk (r_replace_28_ok hm w) ⟨rfl, trivial⟩
def r_replace_16 (m : Nat) (h0 : qH) (d : Nat) (x1 x2 s0 : Int) (B : qB) (Q : qO → qB → Prop) : Prop := R32 s0 ∧ (s0 = 0 → r_replace_28 m h0 d B Q) ∧ (¬ s0 = 0 → qZ m h0 d k_in 0 [some (iv x2), some (iv 0), some (iv 3)] [] B (fun o B' => ∃ v : Int, o = .inl (some (iv v)) ∧ r_replace_25 m h0 d x1 x2 v B' Q))
theorem r_replace_16_ok {m : Nat} {h0 : qH} {d : Nat} {x1 x2 s0 : Int} {B : qB} {Q : qO → qB → Prop} (hm : m + 100 < 1000000000) (w : r_replace_16 m h0 d x1 x2 s0 B Q) : qZ m h0 (d + 1) k_replace 16 [some (.ref m), some (iv x1), some (iv x2), none, none, none] [iv s0] B Q := by
  unfold r_replace_16 at w
  obtain ⟨p1, w⟩ := w
  refine z_ifz (t := 28) (ck_at dt_replace 9 rfl) rfl p1 ?_ ?_
  · intro q; have w := w.1 q
    exact z_wk (r_replace_28_ok hm w) ⟨rfl, trivial⟩
  · intro q; have w := w.2 q
    refine z_ldk (ok := q_isI) (n := 2) (ck_at dt_replace 10 rfl) rfl rfl (fun _ => rfl) rfl rfl ?_
    refine z_op (ck_at dt_replace 11 rfl) rfl (o_const _) ?_
    refine z_op (ck_at dt_replace 12 rfl) rfl (o_const _) ?_
    refine z_stat (k' := k_in) (n := 0) (as := [iv x2, iv 0, iv 3]) (r := []) (ck_at dt_replace 13 rfl) own_replace (mm_at 2 rfl) (ms_at 0 rfl) vk_in rfl nl_in rfl rfl rfl rfl ?_
    exact w.mono (Nat.le_refl _) (fun o B' ⟨v, ho, w⟩ => ⟨some (iv v), ho, z_wk (r_replace_25_ok hm w) ⟨rfl, ⟨rfl, ⟨rfl, trivial⟩⟩⟩⟩)
def r_replace_4 (m : Nat) (h0 : qH) (d : Nat) (x1 x2 : Int) (B : qB) (Q : qO → qB → Prop) : Prop := qZ m h0 d k_in 0 [some (iv x1), some (iv 0), some (iv 7)] [] (u2 B 3 0 (-1)) (fun o B' => ∃ v : Int, o = .inl (some (iv v)) ∧ r_replace_16 m h0 d x1 x2 v B' Q)
theorem r_replace_4_ok {m : Nat} {h0 : qH} {d : Nat} {x1 x2 : Int} {B : qB} {Q : qO → qB → Prop} (hm : m + 100 < 1000000000) (w : r_replace_4 m h0 d x1 x2 B Q) : qZ m h0 (d + 1) k_replace 4 [some (.ref m), some (iv x1), some (iv x2), none, none, none] [] B Q := by
  unfold r_replace_4 at w
  refine z_ldk (ok := q_isA) (n := 0) (ck_at dt_replace 2 rfl) rfl rfl (fun _ => rfl) rfl rfl ?_
  refine z_op (ck_at dt_replace 3 rfl) rfl (o_const _) ?_
  refine z_putI (j := 3) hm (ck_at dt_replace 4 rfl) own_replace (mf_at 1 rfl) (by decide) rfl rfl rfl ?_
  refine z_ldk (ok := q_isI) (n := 1) (ck_at dt_replace 5 rfl) rfl rfl (fun _ => rfl) rfl rfl ?_
  refine z_op (ck_at dt_replace 6 rfl) rfl (o_const _) ?_
  refine z_op (ck_at dt_replace 7 rfl) rfl (o_bipush _ (by decide)) ?_
  refine z_stat (k' := k_in) (n := 0) (as := [iv x1, iv 0, iv 7]) (r := []) (ck_at dt_replace 8 rfl) own_replace (mm_at 2 rfl) (ms_at 0 rfl) vk_in rfl nl_in rfl rfl rfl rfl ?_
  exact w.mono (Nat.le_refl _) (fun o B' ⟨v, ho, w⟩ => ⟨some (iv v), ho, z_wk (r_replace_16_ok hm w) ⟨rfl, ⟨rfl, ⟨rfl, trivial⟩⟩⟩⟩)
def r_replace_0 (m : Nat) (h0 : qH) (d : Nat) (x1 x2 : Int) (B : qB) (Q : qO → qB → Prop) : Prop := qZ m h0 d k_take 0 [some (.ref m), none] [] B (fun o B' => o = .inl none ∧ r_replace_4 m h0 d x1 x2 B' Q)
theorem r_replace_0_ok {m : Nat} {h0 : qH} {d : Nat} {x1 x2 : Int} {B : qB} {Q : qO → qB → Prop} (hm : m + 100 < 1000000000) (w : r_replace_0 m h0 d x1 x2 B Q) : qZ m h0 (d + 1) k_replace 0 [some (.ref m), some (iv x1), some (iv x2), none, none, none] [] B Q := by
  unfold r_replace_0 at w
  refine z_ldk (ok := q_isA) (n := 0) (ck_at dt_replace 0 rfl) rfl rfl (fun _ => rfl) rfl rfl ?_
  refine z_virt (k' := k_take) (n := 1) (as := []) (r := []) (ck_at dt_replace 1 rfl) own_replace (mm_at 3 rfl) vk_take rfl nl_take rfl rfl rfl rfl ?_
  exact w.mono (Nat.le_refl _) (fun o B' ⟨ho, w⟩ => ⟨none, ho, z_wk (r_replace_4_ok hm w) ⟨rfl, ⟨rfl, ⟨rfl, trivial⟩⟩⟩⟩)
