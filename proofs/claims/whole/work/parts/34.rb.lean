/-! readPattern()V -/
def t_readPattern : List (Nat × Instr × Nat) := [(0, .aload_n 0, 1), (1, .iconst 0, 1), (2, .putfield 180, 3), (5, .aload_n 0, 1), (6, .iconst 0, 1), (7, .putfield 186, 3), (10, .aload_n 0, 1), (11, .iconst 0, 1), (12, .putfield 207, 3), (15, .aload_n 0, 1), (16, .iconst 0, 1), (17, .putfield 210, 3), (20, .aload_n 0, 1), (21, .iconst 0, 1), (22, .putfield 213, 3), (25, .aload_n 0, 1), (26, .iconst 0, 1), (27, .putfield 200, 3), (30, .aload_n 0, 1), (31, .iconst (-1), 1), (32, .putfield 183, 3), (35, .aload_n 0, 1), (36, .iconst 1, 1), (37, .iconst 0, 1), (38, .iconst 0, 1), (39, .invokevirtual 216, 3), (42, .aload_n 0, 1), (43, .getfield 213, 3), (46, .aload_n 0, 1), (47, .getfield 177, 3), (50, .if_icmp .ge 110, 3), (53, .aload_n 0, 1), (54, .getfield 183, 3), (57, .ifCond .ge 103, 3), (60, .aload_n 0, 1), (61, .aload_n 0, 1), (62, .getfield 213, 3), (65, .invokevirtual 220, 3), (68, .istore_n 1, 1), (69, .iload_n 1, 1), (70, .bipush 124, 2), (72, .if_icmp .ne 47, 3), (75, .aload_n 0, 1), (76, .dup, 1), (77, .getfield 213, 3), (80, .iconst 1, 1), (81, .iadd, 1), (82, .putfield 213, 3), (85, .aload_n 0, 1), (86, .getfield 200, 3), (89, .iconst 1, 1), (90, .isub, 1), (91, .istore_n 2, 1), (92, .aload_n 0, 1), (93, .getfield 91, 3), (96, .iload_n 2, 1), (97, .aload_n 0, 1), (98, .invokevirtual 223, 3), (101, .iastore, 1), (102, .aload_n 0, 1), (103, .getfield 94, 3), (106, .iload_n 2, 1), (107, .aload_n 0, 1), (108, .bipush 11, 2), (110, .iconst 0, 1), (111, .iconst 0, 1), (112, .invokevirtual 196, 3), (115, .iastore, 1), (116, .goto 41, 3), (119, .iload_n 1, 1), (120, .bipush 40, 2), (122, .if_icmp .ne 10, 3), (125, .aload_n 0, 1), (126, .invokevirtual 227, 3), (129, .goto 28, 3), (132, .iload_n 1, 1), (133, .bipush 41, 2), (135, .if_icmp .ne 10, 3), (138, .aload_n 0, 1), (139, .invokevirtual 230, 3), (142, .goto 15, 3), (145, .aload_n 0, 1), (146, .aload_n 0, 1), (147, .aload_n 0, 1), (148, .invokevirtual 233, 3), (151, .invokevirtual 236, 3), (154, .invokevirtual 239, 3), (157, .goto (-115), 3), (160, .aload_n 0, 1), (161, .getfield 183, 3), (164, .ifCond .ge 20, 3), (167, .aload_n 0, 1), (168, .getfield 200, 3), (171, .iconst 1, 1), (172, .if_icmp .le 12, 3), (175, .aload_n 0, 1), (176, .aload_n 0, 1), (177, .getfield 213, 3), (180, .invokevirtual 242, 3), (183, .pop, 1), (184, .aload_n 0, 1), (185, .getfield 183, 3), (188, .ifCond .ge 11, 3), (191, .aload_n 0, 1), (192, .aload_n 0, 1), (193, .invokevirtual 223, 3), (196, .putfield 245, 3), (199, .return_, 1)]
set_option maxRecDepth 100000 in
theorem dt_readPattern : q_ck k_readPattern t_readPattern = true := by decide +kernel
def r_readPattern_196 (m : Nat) (h0 : qH) (d : Nat) (s1 : Int) (B : qB) (Q : qO → qB → Prop) : Prop := Q (.inl none) (u2 B 34 0 s1)
theorem r_readPattern_196_ok {m : Nat} {h0 : qH} {d : Nat} {s1 : Int} {B : qB} {Q : qO → qB → Prop} (hm : m + 100 < 1000000000) (w : r_readPattern_196 m h0 d s1 B Q) : qZ m h0 (d + 1) k_readPattern 196 [none, none, none] [iv s1, .ref m] B Q := by
  unfold r_readPattern_196 at w
  refine z_putI (j := 34) hm (ck_at dt_readPattern 106 rfl) own_readPattern (mf_at 52 rfl) (by decide) rfl rfl rfl ?_
  exact z_ret0 (ck_at dt_readPattern 107 rfl) rt_readPattern w
def r_readPattern_184 (m : Nat) (h0 : qH) (d : Nat) (B : qB) (Q : qO → qB → Prop) : Prop := R32 (B 35 0) ∧ (B 35 0 ≥ 0 → Q (.inl none) B) ∧ (B 35 0 < 0 → qZ m h0 d k_closed 0 [some (.ref m), none] [] B (fun o B' => ∃ v : Int, o = .inl (some (iv v)) ∧ r_readPattern_196 m h0 d v B' Q))
theorem r_readPattern_184_ok {m : Nat} {h0 : qH} {d : Nat} {B : qB} {Q : qO → qB → Prop} (hm : m + 100 < 1000000000) (w : r_readPattern_184 m h0 d B Q) : qZ m h0 (d + 1) k_readPattern 184 [some (.ref m), none, none] [] B Q := by
  unfold r_readPattern_184 at w
  obtain ⟨p1, w⟩ := w
  refine z_ldk (ok := q_isA) (n := 0) (ck_at dt_readPattern 100 rfl) rfl rfl (fun _ => rfl) rfl rfl ?_
  refine z_getI (j := 35) (ck_at dt_readPattern 101 rfl) own_readPattern (mf_at 51 rfl) (by decide) rfl ?_
  refine z_ifz (t := 199) (ck_at dt_readPattern 102 rfl) rfl p1 ?_ ?_
  · intro q; have w := w.1 q
    exact z_ret0 (ck_at dt_readPattern 107 rfl) rt_readPattern w
  · intro q; have w := w.2 q
    refine z_ldk (ok := q_isA) (n := 0) (ck_at dt_readPattern 103 rfl) rfl rfl (fun _ => rfl) rfl rfl ?_
    refine z_ldk (ok := q_isA) (n := 0) (ck_at dt_readPattern 104 rfl) rfl rfl (fun _ => rfl) rfl rfl ?_
    refine z_virt (k' := k_closed) (n := 1) (as := []) (r := [.ref m]) (ck_at dt_readPattern 105 rfl) own_readPattern (mm_at 7 rfl) vk_closed rfl nl_closed rfl rfl rfl rfl ?_
    exact w.mono (Nat.le_refl _) (fun o B' ⟨v, ho, w⟩ => ⟨some (iv v), ho, z_wk (r_readPattern_196_ok hm w) trivial⟩)
def r_readPattern_183 (m : Nat) (h0 : qH) (d : Nat) (s0 : Int) (B : qB) (Q : qO → qB → Prop) : Prop := r_readPattern_184 m h0 d B Q
theorem r_readPattern_183_ok {m : Nat} {h0 : qH} {d : Nat} {s0 : Int} {B : qB} {Q : qO → qB → Prop} (hm : m + 100 < 1000000000) (w : r_readPattern_183 m h0 d s0 B Q) : qZ m h0 (d + 1) k_readPattern 183 [some (.ref m), none, none] [iv s0] B Q := by
  unfold r_readPattern_183 at w
  refine z_op (ck_at dt_readPattern 99 rfl) rfl rfl ?_
  exact z_wk (r_readPattern_184_ok hm w) ⟨rfl, trivial⟩
def r_readPattern_160 (m : Nat) (h0 : qH) (d : Nat) (B : qB) (Q : qO → qB → Prop) : Prop := R32 (B 35 0) ∧ (B 35 0 ≥ 0 → r_readPattern_184 m h0 d B Q) ∧ (B 35 0 < 0 → R32 (B 41 0) ∧ (B 41 0 ≤ 1 → r_readPattern_184 m h0 d B Q) ∧ (B 41 0 > 1 → qZ m h0 d k_wrong 0 [some (.ref m), some (iv (B 33 0))] [] B (fun o B' => ∃ v : Int, o = .inl (some (iv v)) ∧ r_readPattern_183 m h0 d v B' Q)))
theorem r_readPattern_160_ok {m : Nat} {h0 : qH} {d : Nat} {B : qB} {Q : qO → qB → Prop} (hm : m + 100 < 1000000000) (w : r_readPattern_160 m h0 d B Q) : qZ m h0 (d + 1) k_readPattern 160 [some (.ref m), none, none] [] B Q := by
  unfold r_readPattern_160 at w
  obtain ⟨p1, w⟩ := w
  refine z_ldk (ok := q_isA) (n := 0) (ck_at dt_readPattern 88 rfl) rfl rfl (fun _ => rfl) rfl rfl ?_
  refine z_getI (j := 35) (ck_at dt_readPattern 89 rfl) own_readPattern (mf_at 51 rfl) (by decide) rfl ?_
  refine z_ifz (t := 184) (ck_at dt_readPattern 90 rfl) rfl p1 ?_ ?_
  · intro q; have w := w.1 q
    exact z_wk (r_readPattern_184_ok hm w) ⟨rfl, trivial⟩
  · intro q; have w := w.2 q
    obtain ⟨p2, w⟩ := w
    refine z_ldk (ok := q_isA) (n := 0) (ck_at dt_readPattern 91 rfl) rfl rfl (fun _ => rfl) rfl rfl ?_
    refine z_getI (j := 41) (ck_at dt_readPattern 92 rfl) own_readPattern (mf_at 58 rfl) (by decide) rfl ?_
    refine z_op (ck_at dt_readPattern 93 rfl) rfl (o_const _) ?_
    refine z_icmp (t := 184) (ck_at dt_readPattern 94 rfl) rfl p2 ⟨by decide, by decide⟩ ?_ ?_
    · intro q; have w := w.1 q
      exact z_wk (r_readPattern_184_ok hm w) ⟨rfl, trivial⟩
    · intro q; have w := w.2 q
      refine z_ldk (ok := q_isA) (n := 0) (ck_at dt_readPattern 95 rfl) rfl rfl (fun _ => rfl) rfl rfl ?_
      refine z_ldk (ok := q_isA) (n := 0) (ck_at dt_readPattern 96 rfl) rfl rfl (fun _ => rfl) rfl rfl ?_
      refine z_getI (j := 33) (ck_at dt_readPattern 97 rfl) own_readPattern (mf_at 57 rfl) (by decide) rfl ?_
      refine z_virt (k' := k_wrong) (n := 0) (as := [iv (B 33 0)]) (r := []) (ck_at dt_readPattern 98 rfl) own_readPattern (mm_at 14 rfl) vk_wrong rfl nl_wrong rfl rfl rfl rfl ?_
      exact w.mono (Nat.le_refl _) (fun o B' ⟨v, ho, w⟩ => ⟨some (iv v), ho, z_wk (r_readPattern_183_ok hm w) ⟨rfl, trivial⟩⟩)
def r_readPattern_157 (m : Nat) (h0 : qH) (d : Nat) (B : qB) (Q : qO → qB → Prop) : Prop := qZ m h0 (d + 1) k_readPattern 42 [some (.ref m), none, none] [] B Q
theorem r_readPattern_157_ok {m : Nat} {h0 : qH} {d : Nat} {B : qB} {Q : qO → qB → Prop} (hm : m + 100 < 1000000000) (w : r_readPattern_157 m h0 d B Q) : qZ m h0 (d + 1) k_readPattern 157 [some (.ref m), none, none] [] B Q := by
  unfold r_readPattern_157 at w
  refine z_goto (t := 42) (ck_at dt_readPattern 87 rfl) rfl ?_
  exact z_wk w ⟨rfl, trivial⟩
def r_readPattern_154 (m : Nat) (h0 : qH) (d : Nat) (s1 : Int) (B : qB) (Q : qO → qB → Prop) : Prop := qZ m h0 d k_joins 0 [some (.ref m), some (iv s1), none] [] B (fun o B' => o = .inl none ∧ r_readPattern_157 m h0 d B' Q)
theorem r_readPattern_154_ok {m : Nat} {h0 : qH} {d : Nat} {s1 : Int} {B : qB} {Q : qO → qB → Prop} (hm : m + 100 < 1000000000) (w : r_readPattern_154 m h0 d s1 B Q) : qZ m h0 (d + 1) k_readPattern 154 [some (.ref m), none, none] [iv s1, .ref m] B Q := by
  unfold r_readPattern_154 at w
  refine z_virt (k' := k_joins) (n := 1) (as := [iv s1]) (r := []) (ck_at dt_readPattern 86 rfl) own_readPattern (mm_at 13 rfl) vk_joins rfl nl_joins rfl rfl rfl rfl ?_
  exact w.mono (Nat.le_refl _) (fun o B' ⟨ho, w⟩ => ⟨none, ho, z_wk (r_readPattern_157_ok hm w) ⟨rfl, trivial⟩⟩)
def r_readPattern_151 (m : Nat) (h0 : qH) (d : Nat) (s2 : Int) (B : qB) (Q : qO → qB → Prop) : Prop := qZ m h0 d k_quantified 0 [some (.ref m), some (iv s2), none, none, none, none, none, none] [] B (fun o B' => ∃ v : Int, o = .inl (some (iv v)) ∧ r_readPattern_154 m h0 d v B' Q)
theorem r_readPattern_151_ok {m : Nat} {h0 : qH} {d : Nat} {s2 : Int} {B : qB} {Q : qO → qB → Prop} (hm : m + 100 < 1000000000) (w : r_readPattern_151 m h0 d s2 B Q) : qZ m h0 (d + 1) k_readPattern 151 [some (.ref m), none, none] [iv s2, .ref m, .ref m] B Q := by
  unfold r_readPattern_151 at w
  refine z_virt (k' := k_quantified) (n := 6) (as := [iv s2]) (r := [.ref m]) (ck_at dt_readPattern 85 rfl) own_readPattern (mm_at 12 rfl) vk_quantified rfl nl_quantified rfl rfl rfl rfl ?_
  exact w.mono (Nat.le_refl _) (fun o B' ⟨v, ho, w⟩ => ⟨some (iv v), ho, z_wk (r_readPattern_154_ok hm w) ⟨rfl, trivial⟩⟩)
def r_readPattern_142 (m : Nat) (h0 : qH) (d : Nat) (B : qB) (Q : qO → qB → Prop) : Prop := r_readPattern_157 m h0 d B Q
theorem r_readPattern_142_ok {m : Nat} {h0 : qH} {d : Nat} {B : qB} {Q : qO → qB → Prop} (hm : m + 100 < 1000000000) (w : r_readPattern_142 m h0 d B Q) : qZ m h0 (d + 1) k_readPattern 142 [some (.ref m), none, none] [] B Q := by
  unfold r_readPattern_142 at w
  refine z_goto (t := 157) (ck_at dt_readPattern 80 rfl) rfl ?_
  exact z_wk (r_readPattern_157_ok hm w) ⟨rfl, trivial⟩
def r_readPattern_129 (m : Nat) (h0 : qH) (d : Nat) (B : qB) (Q : qO → qB → Prop) : Prop := r_readPattern_157 m h0 d B Q
theorem r_readPattern_129_ok {m : Nat} {h0 : qH} {d : Nat} {B : qB} {Q : qO → qB → Prop} (hm : m + 100 < 1000000000) (w : r_readPattern_129 m h0 d B Q) : qZ m h0 (d + 1) k_readPattern 129 [some (.ref m), none, none] [] B Q := by
  unfold r_readPattern_129 at w
  refine z_goto (t := 157) (ck_at dt_readPattern 74 rfl) rfl ?_
  exact z_wk (r_readPattern_157_ok hm w) ⟨rfl, trivial⟩
def r_readPattern_115 (m : Nat) (h0 : qH) (d : Nat) (s1 s2 : Int) (B : qB) (Q : qO → qB → Prop) : Prop := 0 ≤ s1 ∧ s1 < 12 ∧ r_readPattern_157 m h0 d (u2 B 39 s1 s2) Q
theorem r_readPattern_115_ok {m : Nat} {h0 : qH} {d : Nat} {s1 s2 : Int} {B : qB} {Q : qO → qB → Prop} (hm : m + 100 < 1000000000) (w : r_readPattern_115 m h0 d s1 s2 B Q) : qZ m h0 (d + 1) k_readPattern 115 [some (.ref m), none, none] [iv s2, iv s1, .ref (m + 1 + 26)] B Q := by
  unfold r_readPattern_115 at w
  obtain ⟨p1, p2, w⟩ := w
  refine z_iast (j := 39) (n := 12) hm (ck_at dt_readPattern 67 rfl) rfl rfl rfl p1 p2 ?_
  refine z_goto (t := 157) (ck_at dt_readPattern 68 rfl) rfl ?_
  exact z_wk (r_readPattern_157_ok hm w) ⟨rfl, trivial⟩
def r_readPattern_101 (m : Nat) (h0 : qH) (d : Nat) (x2 s1 s2 : Int) (B : qB) (Q : qO → qB → Prop) : Prop := 0 ≤ s1 ∧ s1 < 12 ∧ qZ m h0 d k_newNode 0 [some (.ref m), some (iv 11), some (iv 0), some (iv 0)] [] (u2 B 38 s1 s2) (fun o B' => ∃ v : Int, o = .inl (some (iv v)) ∧ r_readPattern_115 m h0 d x2 v B' Q)
theorem r_readPattern_101_ok {m : Nat} {h0 : qH} {d : Nat} {x2 s1 s2 : Int} {B : qB} {Q : qO → qB → Prop} (hm : m + 100 < 1000000000) (w : r_readPattern_101 m h0 d x2 s1 s2 B Q) : qZ m h0 (d + 1) k_readPattern 101 [some (.ref m), none, some (iv x2)] [iv s2, iv s1, .ref (m + 1 + 25)] B Q := by
  unfold r_readPattern_101 at w
  obtain ⟨p1, p2, w⟩ := w
  refine z_iast (j := 38) (n := 12) hm (ck_at dt_readPattern 58 rfl) rfl rfl rfl p1 p2 ?_
  refine z_ldk (ok := q_isA) (n := 0) (ck_at dt_readPattern 59 rfl) rfl rfl (fun _ => rfl) rfl rfl ?_
  refine z_getR (j := 39) (a := 26) (ck_at dt_readPattern 60 rfl) own_readPattern (mf_at 27 rfl) (by decide) rfl rfl ?_
  refine z_ldk (ok := q_isI) (n := 2) (ck_at dt_readPattern 61 rfl) rfl rfl (fun _ => rfl) rfl rfl ?_
  refine z_ldk (ok := q_isA) (n := 0) (ck_at dt_readPattern 62 rfl) rfl rfl (fun _ => rfl) rfl rfl ?_
  refine z_op (ck_at dt_readPattern 63 rfl) rfl (o_bipush _ (by decide)) ?_
  refine z_op (ck_at dt_readPattern 64 rfl) rfl (o_const _) ?_
  refine z_op (ck_at dt_readPattern 65 rfl) rfl (o_const _) ?_
  refine z_virt (k' := k_newNode) (n := 0) (as := [iv 11, iv 0, iv 0]) (r := [iv x2, .ref (m + 1 + 26)]) (ck_at dt_readPattern 66 rfl) own_readPattern (mm_at 8 rfl) vk_newNode rfl nl_newNode rfl rfl rfl rfl ?_
  exact w.mono (Nat.le_refl _) (fun o B' ⟨v, ho, w⟩ => ⟨some (iv v), ho, z_wk (r_readPattern_115_ok hm w) ⟨rfl, trivial⟩⟩)
def r_readPattern_68 (m : Nat) (h0 : qH) (d : Nat) (s0 : Int) (B : qB) (Q : qO → qB → Prop) : Prop := R32 s0 ∧ (¬ s0 = 124 → (¬ s0 = 40 → (¬ s0 = 41 → qZ m h0 d k_atom 0 [some (.ref m), none, none, none] [] B (fun o B' => ∃ v : Int, o = .inl (some (iv v)) ∧ r_readPattern_151 m h0 d v B' Q)) ∧ (s0 = 41 → qZ m h0 d k_close 0 [some (.ref m), none, none, none] [] B (fun o B' => o = .inl none ∧ r_readPattern_142 m h0 d B' Q))) ∧ (s0 = 40 → qZ m h0 d k_bracket 0 [some (.ref m), none, none, none, none] [] B (fun o B' => o = .inl none ∧ r_readPattern_129 m h0 d B' Q))) ∧ (s0 = 124 → qZ m h0 d k_closed 0 [some (.ref m), none] [] (u2 B 33 0 ((B 33 0) + 1)) (fun o B' => ∃ v : Int, o = .inl (some (iv v)) ∧ r_readPattern_101 m h0 d ((B 41 0) - 1) ((B 41 0) - 1) v B' Q))
theorem r_readPattern_68_ok {m : Nat} {h0 : qH} {d : Nat} {s0 : Int} {B : qB} {Q : qO → qB → Prop} (hm : m + 100 < 1000000000) (w : r_readPattern_68 m h0 d s0 B Q) : qZ m h0 (d + 1) k_readPattern 68 [some (.ref m), none, none] [iv s0] B Q := by
  unfold r_readPattern_68 at w
  obtain ⟨p1, w⟩ := w
  refine z_st1 (ok := q_isI) (n := 1) (L' := [some (.ref m), some (iv s0), none]) (ck_at dt_readPattern 38 rfl) rfl (fun _ => rfl) (fun _ _ => rfl) rfl nl_readPattern (by decide) rfl rfl ?_
  refine z_ldk (ok := q_isI) (n := 1) (ck_at dt_readPattern 39 rfl) rfl rfl (fun _ => rfl) rfl rfl ?_
  refine z_op (ck_at dt_readPattern 40 rfl) rfl (o_bipush _ (by decide)) ?_
  refine z_icmp (t := 119) (ck_at dt_readPattern 41 rfl) rfl p1 ⟨by decide, by decide⟩ ?_ ?_
  · intro q; have w := w.1 q
    refine z_ldk (ok := q_isI) (n := 1) (ck_at dt_readPattern 69 rfl) rfl rfl (fun _ => rfl) rfl rfl ?_
    refine z_op (ck_at dt_readPattern 70 rfl) rfl (o_bipush _ (by decide)) ?_
    refine z_icmp (t := 132) (ck_at dt_readPattern 71 rfl) rfl p1 ⟨by decide, by decide⟩ ?_ ?_
    · intro q; have w := w.1 q
      refine z_ldk (ok := q_isI) (n := 1) (ck_at dt_readPattern 75 rfl) rfl rfl (fun _ => rfl) rfl rfl ?_
      refine z_op (ck_at dt_readPattern 76 rfl) rfl (o_bipush _ (by decide)) ?_
      refine z_icmp (t := 145) (ck_at dt_readPattern 77 rfl) rfl p1 ⟨by decide, by decide⟩ ?_ ?_
      · intro q; have w := w.1 q
        refine z_ldk (ok := q_isA) (n := 0) (ck_at dt_readPattern 81 rfl) rfl rfl (fun _ => rfl) rfl rfl ?_
        refine z_ldk (ok := q_isA) (n := 0) (ck_at dt_readPattern 82 rfl) rfl rfl (fun _ => rfl) rfl rfl ?_
        refine z_ldk (ok := q_isA) (n := 0) (ck_at dt_readPattern 83 rfl) rfl rfl (fun _ => rfl) rfl rfl ?_
        refine z_virt (k' := k_atom) (n := 3) (as := []) (r := [.ref m, .ref m]) (ck_at dt_readPattern 84 rfl) own_readPattern (mm_at 11 rfl) vk_atom rfl nl_atom rfl rfl rfl rfl ?_
        exact w.mono (Nat.le_refl _) (fun o B' ⟨v, ho, w⟩ => ⟨some (iv v), ho, z_wk (r_readPattern_151_ok hm w) ⟨rfl, trivial⟩⟩)
      · intro q; have w := w.2 q
        refine z_ldk (ok := q_isA) (n := 0) (ck_at dt_readPattern 78 rfl) rfl rfl (fun _ => rfl) rfl rfl ?_
        refine z_virt (k' := k_close) (n := 3) (as := []) (r := []) (ck_at dt_readPattern 79 rfl) own_readPattern (mm_at 10 rfl) vk_close rfl nl_close rfl rfl rfl rfl ?_
        exact w.mono (Nat.le_refl _) (fun o B' ⟨ho, w⟩ => ⟨none, ho, z_wk (r_readPattern_142_ok hm w) ⟨rfl, trivial⟩⟩)
    · intro q; have w := w.2 q
      refine z_ldk (ok := q_isA) (n := 0) (ck_at dt_readPattern 72 rfl) rfl rfl (fun _ => rfl) rfl rfl ?_
      refine z_virt (k' := k_bracket) (n := 4) (as := []) (r := []) (ck_at dt_readPattern 73 rfl) own_readPattern (mm_at 9 rfl) vk_bracket rfl nl_bracket rfl rfl rfl rfl ?_
      exact w.mono (Nat.le_refl _) (fun o B' ⟨ho, w⟩ => ⟨none, ho, z_wk (r_readPattern_129_ok hm w) ⟨rfl, trivial⟩⟩)
  · intro q; have w := w.2 q
    refine z_ldk (ok := q_isA) (n := 0) (ck_at dt_readPattern 42 rfl) rfl rfl (fun _ => rfl) rfl rfl ?_
    refine z_op (ck_at dt_readPattern 43 rfl) rfl rfl ?_
    refine z_getI (j := 33) (ck_at dt_readPattern 44 rfl) own_readPattern (mf_at 57 rfl) (by decide) rfl ?_
    refine z_op (ck_at dt_readPattern 45 rfl) rfl (o_const _) ?_
    refine z_op (ck_at dt_readPattern 46 rfl) rfl o_iadd ?_
    refine z_putI (j := 33) hm (ck_at dt_readPattern 47 rfl) own_readPattern (mf_at 57 rfl) (by decide) rfl rfl rfl ?_
    refine z_ldk (ok := q_isA) (n := 0) (ck_at dt_readPattern 48 rfl) rfl rfl (fun _ => rfl) rfl rfl ?_
    refine z_getI (j := 41) (ck_at dt_readPattern 49 rfl) own_readPattern (mf_at 58 rfl) (by decide) rfl ?_
    refine z_op (ck_at dt_readPattern 50 rfl) rfl (o_const _) ?_
    refine z_op (ck_at dt_readPattern 51 rfl) rfl o_isub ?_
    refine z_st1 (ok := q_isI) (n := 2) (L' := [some (.ref m), some (iv s0), some (iv ((B 41 0) - 1))]) (ck_at dt_readPattern 52 rfl) rfl (fun _ => rfl) (fun _ _ => rfl) rfl nl_readPattern (by decide) rfl rfl ?_
    refine z_ldk (ok := q_isA) (n := 0) (ck_at dt_readPattern 53 rfl) rfl rfl (fun _ => rfl) rfl rfl ?_
    refine z_getR (j := 38) (a := 25) (ck_at dt_readPattern 54 rfl) own_readPattern (mf_at 26 rfl) (by decide) rfl rfl ?_
    refine z_ldk (ok := q_isI) (n := 2) (ck_at dt_readPattern 55 rfl) rfl rfl (fun _ => rfl) rfl rfl ?_
    refine z_ldk (ok := q_isA) (n := 0) (ck_at dt_readPattern 56 rfl) rfl rfl (fun _ => rfl) rfl rfl ?_
    refine z_virt (k' := k_closed) (n := 1) (as := []) (r := [iv ((B 41 0) - 1), .ref (m + 1 + 25)]) (ck_at dt_readPattern 57 rfl) own_readPattern (mm_at 7 rfl) vk_closed rfl nl_closed rfl rfl rfl rfl ?_
    exact w.mono (Nat.le_refl _) (fun o B' ⟨v, ho, w⟩ => ⟨some (iv v), ho, z_wk (r_readPattern_101_ok hm w) ⟨rfl, ⟨rfl, trivial⟩⟩⟩)
def r_readPattern_42 (m : Nat) (h0 : qH) (d : Nat) (B : qB) (Q : qO → qB → Prop) : Prop := R32 (B 33 0) ∧ R32 (B 32 0) ∧ (B 33 0 ≥ B 32 0 → r_readPattern_160 m h0 d B Q) ∧ (B 33 0 < B 32 0 → R32 (B 35 0) ∧ (B 35 0 ≥ 0 → r_readPattern_160 m h0 d B Q) ∧ (B 35 0 < 0 → qZ m h0 d k_signAt 0 [some (.ref m), some (iv (B 33 0))] [] B (fun o B' => ∃ v : Int, o = .inl (some (iv v)) ∧ r_readPattern_68 m h0 d v B' Q)))
theorem r_readPattern_42_ok {m : Nat} {h0 : qH} {d : Nat} {B : qB} {Q : qO → qB → Prop} (hm : m + 100 < 1000000000) (w : r_readPattern_42 m h0 d B Q) : qZ m h0 (d + 1) k_readPattern 42 [some (.ref m), none, none] [] B Q := by
  unfold r_readPattern_42 at w
  obtain ⟨p1, p2, w⟩ := w
  refine z_ldk (ok := q_isA) (n := 0) (ck_at dt_readPattern 26 rfl) rfl rfl (fun _ => rfl) rfl rfl ?_
  refine z_getI (j := 33) (ck_at dt_readPattern 27 rfl) own_readPattern (mf_at 57 rfl) (by decide) rfl ?_
  refine z_ldk (ok := q_isA) (n := 0) (ck_at dt_readPattern 28 rfl) rfl rfl (fun _ => rfl) rfl rfl ?_
  refine z_getI (j := 32) (ck_at dt_readPattern 29 rfl) own_readPattern (mf_at 50 rfl) (by decide) rfl ?_
  refine z_icmp (t := 160) (ck_at dt_readPattern 30 rfl) rfl p1 p2 ?_ ?_
  · intro q; have w := w.1 q
    exact z_wk (r_readPattern_160_ok hm w) ⟨rfl, trivial⟩
  · intro q; have w := w.2 q
    obtain ⟨p3, w⟩ := w
    refine z_ldk (ok := q_isA) (n := 0) (ck_at dt_readPattern 31 rfl) rfl rfl (fun _ => rfl) rfl rfl ?_
    refine z_getI (j := 35) (ck_at dt_readPattern 32 rfl) own_readPattern (mf_at 51 rfl) (by decide) rfl ?_
    refine z_ifz (t := 160) (ck_at dt_readPattern 33 rfl) rfl p3 ?_ ?_
    · intro q; have w := w.1 q
      exact z_wk (r_readPattern_160_ok hm w) ⟨rfl, trivial⟩
    · intro q; have w := w.2 q
      refine z_ldk (ok := q_isA) (n := 0) (ck_at dt_readPattern 34 rfl) rfl rfl (fun _ => rfl) rfl rfl ?_
      refine z_ldk (ok := q_isA) (n := 0) (ck_at dt_readPattern 35 rfl) rfl rfl (fun _ => rfl) rfl rfl ?_
      refine z_getI (j := 33) (ck_at dt_readPattern 36 rfl) own_readPattern (mf_at 57 rfl) (by decide) rfl ?_
      refine z_virt (k' := k_signAt) (n := 0) (as := [iv (B 33 0)]) (r := []) (ck_at dt_readPattern 37 rfl) own_readPattern (mm_at 6 rfl) vk_signAt rfl nl_signAt rfl rfl rfl rfl ?_
      exact w.mono (Nat.le_refl _) (fun o B' ⟨v, ho, w⟩ => ⟨some (iv v), ho, z_wk (r_readPattern_68_ok hm w) ⟨rfl, trivial⟩⟩)
def r_readPattern_0 (m : Nat) (h0 : qH) (d : Nat) (B : qB) (Q : qO → qB → Prop) : Prop := qZ m h0 d k_opens 0 [some (.ref m), some (iv 1), some (iv 0), some (iv 0)] [] (u2 (u2 (u2 (u2 (u2 (u2 (u2 B 28 0 0) 29 0 0) 30 0 0) 26 0 0) 33 0 0) 41 0 0) 35 0 (-1)) (fun o B' => o = .inl none ∧ qZ m h0 (d + 1) k_readPattern 42 [some (.ref m), none, none] [] B' Q)
theorem r_readPattern_0_ok {m : Nat} {h0 : qH} {d : Nat} {B : qB} {Q : qO → qB → Prop} (hm : m + 100 < 1000000000) (w : r_readPattern_0 m h0 d B Q) : qZ m h0 (d + 1) k_readPattern 0 [some (.ref m), none, none] [] B Q := by
  unfold r_readPattern_0 at w
  refine z_ldk (ok := q_isA) (n := 0) (ck_at dt_readPattern 0 rfl) rfl rfl (fun _ => rfl) rfl rfl ?_
  refine z_op (ck_at dt_readPattern 1 rfl) rfl (o_const _) ?_
  refine z_putI (j := 28) hm (ck_at dt_readPattern 2 rfl) own_readPattern (mf_at 54 rfl) (by decide) rfl rfl rfl ?_
  refine z_ldk (ok := q_isA) (n := 0) (ck_at dt_readPattern 3 rfl) rfl rfl (fun _ => rfl) rfl rfl ?_
  refine z_op (ck_at dt_readPattern 4 rfl) rfl (o_const _) ?_
  refine z_putI (j := 29) hm (ck_at dt_readPattern 5 rfl) own_readPattern (mf_at 55 rfl) (by decide) rfl rfl rfl ?_
  refine z_ldk (ok := q_isA) (n := 0) (ck_at dt_readPattern 6 rfl) rfl rfl (fun _ => rfl) rfl rfl ?_
  refine z_op (ck_at dt_readPattern 7 rfl) rfl (o_const _) ?_
  refine z_putI (j := 30) hm (ck_at dt_readPattern 8 rfl) own_readPattern (mf_at 53 rfl) (by decide) rfl rfl rfl ?_
  refine z_ldk (ok := q_isA) (n := 0) (ck_at dt_readPattern 9 rfl) rfl rfl (fun _ => rfl) rfl rfl ?_
  refine z_op (ck_at dt_readPattern 10 rfl) rfl (o_const _) ?_
  refine z_putI (j := 26) hm (ck_at dt_readPattern 11 rfl) own_readPattern (mf_at 56 rfl) (by decide) rfl rfl rfl ?_
  refine z_ldk (ok := q_isA) (n := 0) (ck_at dt_readPattern 12 rfl) rfl rfl (fun _ => rfl) rfl rfl ?_
  refine z_op (ck_at dt_readPattern 13 rfl) rfl (o_const _) ?_
  refine z_putI (j := 33) hm (ck_at dt_readPattern 14 rfl) own_readPattern (mf_at 57 rfl) (by decide) rfl rfl rfl ?_
  refine z_ldk (ok := q_isA) (n := 0) (ck_at dt_readPattern 15 rfl) rfl rfl (fun _ => rfl) rfl rfl ?_
  refine z_op (ck_at dt_readPattern 16 rfl) rfl (o_const _) ?_
  refine z_putI (j := 41) hm (ck_at dt_readPattern 17 rfl) own_readPattern (mf_at 58 rfl) (by decide) rfl rfl rfl ?_
  refine z_ldk (ok := q_isA) (n := 0) (ck_at dt_readPattern 18 rfl) rfl rfl (fun _ => rfl) rfl rfl ?_
  refine z_op (ck_at dt_readPattern 19 rfl) rfl (o_const _) ?_
  refine z_putI (j := 35) hm (ck_at dt_readPattern 20 rfl) own_readPattern (mf_at 51 rfl) (by decide) rfl rfl rfl ?_
  refine z_ldk (ok := q_isA) (n := 0) (ck_at dt_readPattern 21 rfl) rfl rfl (fun _ => rfl) rfl rfl ?_
  refine z_op (ck_at dt_readPattern 22 rfl) rfl (o_const _) ?_
  refine z_op (ck_at dt_readPattern 23 rfl) rfl (o_const _) ?_
  refine z_op (ck_at dt_readPattern 24 rfl) rfl (o_const _) ?_
  refine z_virt (k' := k_opens) (n := 0) (as := [iv 1, iv 0, iv 0]) (r := []) (ck_at dt_readPattern 25 rfl) own_readPattern (mm_at 5 rfl) vk_opens rfl nl_opens rfl rfl rfl rfl ?_
  exact w.mono (Nat.le_refl _) (fun o B' ⟨ho, w⟩ => ⟨none, ho, z_wk w ⟨rfl, trivial⟩⟩)
/-! bracket()V -/
def t_bracket : List (Nat × Instr × Nat) := [(0, .aload_n 0, 1), (1, .getfield 213, 3), (4, .istore_n 1, 1), (5, .aload_n 0, 1), (6, .getfield 200, 3), (9, .bipush 11, 2), (11, .if_icmp .ne 10, 3), (14, .aload_n 0, 1), (15, .iload_n 1, 1), (16, .invokevirtual 242, 3), (19, .pop, 1), (20, .return_, 1), (21, .aload_n 0, 1), (22, .dup, 1), (23, .getfield 213, 3), (26, .iconst 1, 1), (27, .iadd, 1), (28, .putfield 213, 3), (31, .iconst 4, 1), (32, .istore_n 2, 1), (33, .iconst 0, 1), (34, .istore_n 3, 1), (35, .aload_n 0, 1), (36, .aload_n 0, 1), (37, .getfield 213, 3), (40, .invokevirtual 220, 3), (43, .bipush 63, 2), (45, .if_icmp .ne 121, 3), (48, .aload_n 0, 1), (49, .dup, 1), (50, .getfield 213, 3), (53, .iconst 1, 1), (54, .iadd, 1), (55, .putfield 213, 3), (58, .aload_n 0, 1), (59, .aload_n 0, 1), (60, .getfield 213, 3), (63, .invokevirtual 220, 3), (66, .istore 4, 2), (68, .iload 4, 2), (70, .bipush 58, 2), (72, .if_icmp .eq 27, 3), (75, .iload 4, 2), (77, .bipush 61, 2), (79, .if_icmp .eq 20, 3), (82, .iload 4, 2), (84, .bipush 33, 2), (86, .if_icmp .eq 13, 3), (89, .aload_n 0, 1), (90, .aload_n 0, 1), (91, .getfield 213, 3), (94, .invokevirtual 242, 3), (97, .pop, 1), (98, .return_, 1), (99, .iload 4, 2), (101, .bipush 58, 2), (103, .if_icmp .ne 7, 3), (106, .iconst 1, 1), (107, .goto 16, 3), (110, .iload 4, 2), (112, .bipush 61, 2), (114, .if_icmp .ne 7, 3), (117, .iconst 5, 1), (118, .goto 5, 3), (121, .bipush 6, 2), (123, .istore_n 2, 1), (124, .iload_n 2, 1), (125, .iconst 1, 1), (126, .if_icmp .eq 27, 3), (129, .aload_n 0, 1), (130, .getfield 210, 3), (133, .ifCond .le 10, 3), (136, .aload_n 0, 1), (137, .iload_n 1, 1), (138, .invokevirtual 242, 3), (141, .pop, 1), (142, .return_, 1), (143, .aload_n 0, 1), (144, .dup, 1), (145, .getfield 210, 3), (148, .iconst 1, 1), (149, .iadd, 1), (150, .putfield 210, 3), (153, .aload_n 0, 1), (154, .dup, 1), (155, .getfield 213, 3), (158, .iconst 1, 1), (159, .iadd, 1), (160, .putfield 213, 3), (163, .goto 34, 3), (166, .aload_n 0, 1), (167, .getfield 207, 3), (170, .bipush 9, 2), (172, .if_icmp .ne 10, 3), (175, .aload_n 0, 1), (176, .iload_n 1, 1), (177, .invokevirtual 242, 3), (180, .pop, 1), (181, .return_, 1), (182, .aload_n 0, 1), (183, .dup, 1), (184, .getfield 207, 3), (187, .iconst 1, 1), (188, .iadd, 1), (189, .putfield 207, 3), (192, .aload_n 0, 1), (193, .getfield 207, 3), (196, .istore_n 3, 1), (197, .aload_n 0, 1), (198, .iload_n 2, 1), (199, .iload_n 3, 1), (200, .iload_n 1, 1), (201, .invokevirtual 216, 3), (204, .return_, 1)]
set_option maxRecDepth 100000 in
theorem dt_bracket : q_ck k_bracket t_bracket = true := by decide +kernel
def r_bracket_204 (m : Nat) (h0 : qH) (d : Nat) (B : qB) (Q : qO → qB → Prop) : Prop := Q (.inl none) B
theorem r_bracket_204_ok {m : Nat} {h0 : qH} {d : Nat} {B : qB} {Q : qO → qB → Prop} (hm : m + 100 < 1000000000) (w : r_bracket_204 m h0 d B Q) : qZ m h0 (d + 1) k_bracket 204 [none, none, none, none, none] [] B Q := by
  unfold r_bracket_204 at w
  exact z_ret0 (ck_at dt_bracket 113 rfl) rt_bracket w
def r_bracket_197 (m : Nat) (h0 : qH) (d : Nat) (x1 x2 x3 : Int) (B : qB) (Q : qO → qB → Prop) : Prop := qZ m h0 d k_opens 0 [some (.ref m), some (iv x2), some (iv x3), some (iv x1)] [] B (fun o B' => o = .inl none ∧ r_bracket_204 m h0 d B' Q)
theorem r_bracket_197_ok {m : Nat} {h0 : qH} {d : Nat} {x1 x2 x3 : Int} {B : qB} {Q : qO → qB → Prop} (hm : m + 100 < 1000000000) (w : r_bracket_197 m h0 d x1 x2 x3 B Q) : qZ m h0 (d + 1) k_bracket 197 [some (.ref m), some (iv x1), some (iv x2), some (iv x3), none] [] B Q := by
  unfold r_bracket_197 at w
  refine z_ldk (ok := q_isA) (n := 0) (ck_at dt_bracket 108 rfl) rfl rfl (fun _ => rfl) rfl rfl ?_
  refine z_ldk (ok := q_isI) (n := 2) (ck_at dt_bracket 109 rfl) rfl rfl (fun _ => rfl) rfl rfl ?_
  refine z_ldk (ok := q_isI) (n := 3) (ck_at dt_bracket 110 rfl) rfl rfl (fun _ => rfl) rfl rfl ?_
  refine z_ldk (ok := q_isI) (n := 1) (ck_at dt_bracket 111 rfl) rfl rfl (fun _ => rfl) rfl rfl ?_
  refine z_virt (k' := k_opens) (n := 0) (as := [iv x2, iv x3, iv x1]) (r := []) (ck_at dt_bracket 112 rfl) own_bracket (mm_at 5 rfl) vk_opens rfl nl_opens rfl rfl rfl rfl ?_
  exact w.mono (Nat.le_refl _) (fun o B' ⟨ho, w⟩ => ⟨none, ho, z_wk (r_bracket_204_ok hm w) trivial⟩)
def r_bracket_180 (m : Nat) (h0 : qH) (d : Nat) (s0 : Int) (B : qB) (Q : qO → qB → Prop) : Prop := Q (.inl none) B
theorem r_bracket_180_ok {m : Nat} {h0 : qH} {d : Nat} {s0 : Int} {B : qB} {Q : qO → qB → Prop} (hm : m + 100 < 1000000000) (w : r_bracket_180 m h0 d s0 B Q) : qZ m h0 (d + 1) k_bracket 180 [none, none, none, none, none] [iv s0] B Q := by
  unfold r_bracket_180 at w
  refine z_op (ck_at dt_bracket 97 rfl) rfl rfl ?_
  exact z_ret0 (ck_at dt_bracket 98 rfl) rt_bracket w
def r_bracket_153 (m : Nat) (h0 : qH) (d : Nat) (x1 x2 x3 : Int) (B : qB) (Q : qO → qB → Prop) : Prop := r_bracket_197 m h0 d x1 x2 x3 (u2 B 33 0 ((B 33 0) + 1)) Q
theorem r_bracket_153_ok {m : Nat} {h0 : qH} {d : Nat} {x1 x2 x3 : Int} {B : qB} {Q : qO → qB → Prop} (hm : m + 100 < 1000000000) (w : r_bracket_153 m h0 d x1 x2 x3 B Q) : qZ m h0 (d + 1) k_bracket 153 [some (.ref m), some (iv x1), some (iv x2), some (iv x3), none] [] B Q := by
  unfold r_bracket_153 at w
  refine z_ldk (ok := q_isA) (n := 0) (ck_at dt_bracket 83 rfl) rfl rfl (fun _ => rfl) rfl rfl ?_
  refine z_op (ck_at dt_bracket 84 rfl) rfl rfl ?_
  refine z_getI (j := 33) (ck_at dt_bracket 85 rfl) own_bracket (mf_at 57 rfl) (by decide) rfl ?_
  refine z_op (ck_at dt_bracket 86 rfl) rfl (o_const _) ?_
  refine z_op (ck_at dt_bracket 87 rfl) rfl o_iadd ?_
  refine z_putI (j := 33) hm (ck_at dt_bracket 88 rfl) own_bracket (mf_at 57 rfl) (by decide) rfl rfl rfl ?_
  refine z_goto (t := 197) (ck_at dt_bracket 89 rfl) rfl ?_
  exact z_wk (r_bracket_197_ok hm w) ⟨rfl, ⟨rfl, ⟨rfl, ⟨rfl, trivial⟩⟩⟩⟩
def r_bracket_141 (m : Nat) (h0 : qH) (d : Nat) (s0 : Int) (B : qB) (Q : qO → qB → Prop) : Prop := Q (.inl none) B
theorem r_bracket_141_ok {m : Nat} {h0 : qH} {d : Nat} {s0 : Int} {B : qB} {Q : qO → qB → Prop} (hm : m + 100 < 1000000000) (w : r_bracket_141 m h0 d s0 B Q) : qZ m h0 (d + 1) k_bracket 141 [none, none, none, none, none] [iv s0] B Q := by
  unfold r_bracket_141 at w
  refine z_op (ck_at dt_bracket 75 rfl) rfl rfl ?_
  exact z_ret0 (ck_at dt_bracket 76 rfl) rt_bracket w
def r_bracket_123 (m : Nat) (h0 : qH) (d : Nat) (x1 x3 s0 : Int) (B : qB) (Q : qO → qB → Prop) : Prop := R32 s0 ∧ (s0 = 1 → r_bracket_153 m h0 d x1 s0 x3 B Q) ∧ (¬ s0 = 1 → R32 (B 26 0) ∧ (B 26 0 ≤ 0 → r_bracket_153 m h0 d x1 s0 x3 (u2 B 26 0 ((B 26 0) + 1)) Q) ∧ (B 26 0 > 0 → qZ m h0 d k_wrong 0 [some (.ref m), some (iv x1)] [] B (fun o B' => ∃ v : Int, o = .inl (some (iv v)) ∧ r_bracket_141 m h0 d v B' Q)))
theorem r_bracket_123_ok {m : Nat} {h0 : qH} {d : Nat} {x1 x3 s0 : Int} {B : qB} {Q : qO → qB → Prop} (hm : m + 100 < 1000000000) (w : r_bracket_123 m h0 d x1 x3 s0 B Q) : qZ m h0 (d + 1) k_bracket 123 [some (.ref m), some (iv x1), none, some (iv x3), none] [iv s0] B Q := by
  unfold r_bracket_123 at w
  obtain ⟨p1, w⟩ := w
  refine z_st1 (ok := q_isI) (n := 2) (L' := [some (.ref m), some (iv x1), some (iv s0), some (iv x3), none]) (ck_at dt_bracket 65 rfl) rfl (fun _ => rfl) (fun _ _ => rfl) rfl nl_bracket (by decide) rfl rfl ?_
  refine z_ldk (ok := q_isI) (n := 2) (ck_at dt_bracket 66 rfl) rfl rfl (fun _ => rfl) rfl rfl ?_
  refine z_op (ck_at dt_bracket 67 rfl) rfl (o_const _) ?_
  refine z_icmp (t := 153) (ck_at dt_bracket 68 rfl) rfl p1 ⟨by decide, by decide⟩ ?_ ?_
  · intro q; have w := w.1 q
    exact z_wk (r_bracket_153_ok hm w) ⟨rfl, ⟨rfl, ⟨rfl, ⟨rfl, trivial⟩⟩⟩⟩
  · intro q; have w := w.2 q
    obtain ⟨p2, w⟩ := w
    refine z_ldk (ok := q_isA) (n := 0) (ck_at dt_bracket 69 rfl) rfl rfl (fun _ => rfl) rfl rfl ?_
    refine z_getI (j := 26) (ck_at dt_bracket 70 rfl) own_bracket (mf_at 56 rfl) (by decide) rfl ?_
    refine z_ifz (t := 143) (ck_at dt_bracket 71 rfl) rfl p2 ?_ ?_
    · intro q; have w := w.1 q
      refine z_ldk (ok := q_isA) (n := 0) (ck_at dt_bracket 77 rfl) rfl rfl (fun _ => rfl) rfl rfl ?_
      refine z_op (ck_at dt_bracket 78 rfl) rfl rfl ?_
      refine z_getI (j := 26) (ck_at dt_bracket 79 rfl) own_bracket (mf_at 56 rfl) (by decide) rfl ?_
      refine z_op (ck_at dt_bracket 80 rfl) rfl (o_const _) ?_
      refine z_op (ck_at dt_bracket 81 rfl) rfl o_iadd ?_
      refine z_putI (j := 26) hm (ck_at dt_bracket 82 rfl) own_bracket (mf_at 56 rfl) (by decide) rfl rfl rfl ?_
      exact z_wk (r_bracket_153_ok hm w) ⟨rfl, ⟨rfl, ⟨rfl, ⟨rfl, trivial⟩⟩⟩⟩
    · intro q; have w := w.2 q
      refine z_ldk (ok := q_isA) (n := 0) (ck_at dt_bracket 72 rfl) rfl rfl (fun _ => rfl) rfl rfl ?_
      refine z_ldk (ok := q_isI) (n := 1) (ck_at dt_bracket 73 rfl) rfl rfl (fun _ => rfl) rfl rfl ?_
      refine z_virt (k' := k_wrong) (n := 0) (as := [iv x1]) (r := []) (ck_at dt_bracket 74 rfl) own_bracket (mm_at 14 rfl) vk_wrong rfl nl_wrong rfl rfl rfl rfl ?_
      exact w.mono (Nat.le_refl _) (fun o B' ⟨v, ho, w⟩ => ⟨some (iv v), ho, z_wk (r_bracket_141_ok hm w) trivial⟩)
def r_bracket_99 (m : Nat) (h0 : qH) (d : Nat) (x1 x3 x4 : Int) (B : qB) (Q : qO → qB → Prop) : Prop := R32 x4 ∧ (¬ x4 = 58 → (¬ x4 = 61 → r_bracket_123 m h0 d x1 x3 6 B Q) ∧ (x4 = 61 → r_bracket_123 m h0 d x1 x3 5 B Q)) ∧ (x4 = 58 → r_bracket_123 m h0 d x1 x3 1 B Q)
theorem r_bracket_99_ok {m : Nat} {h0 : qH} {d : Nat} {x1 x3 x4 : Int} {B : qB} {Q : qO → qB → Prop} (hm : m + 100 < 1000000000) (w : r_bracket_99 m h0 d x1 x3 x4 B Q) : qZ m h0 (d + 1) k_bracket 99 [some (.ref m), some (iv x1), none, some (iv x3), some (iv x4)] [] B Q := by
  unfold r_bracket_99 at w
  obtain ⟨p1, w⟩ := w
  refine z_ldk (ok := q_isI) (n := 4) (ck_at dt_bracket 54 rfl) rfl rfl (fun _ => rfl) rfl rfl ?_
  refine z_op (ck_at dt_bracket 55 rfl) rfl (o_bipush _ (by decide)) ?_
  refine z_icmp (t := 110) (ck_at dt_bracket 56 rfl) rfl p1 ⟨by decide, by decide⟩ ?_ ?_
  · intro q; have w := w.1 q
    refine z_ldk (ok := q_isI) (n := 4) (ck_at dt_bracket 59 rfl) rfl rfl (fun _ => rfl) rfl rfl ?_
    refine z_op (ck_at dt_bracket 60 rfl) rfl (o_bipush _ (by decide)) ?_
    refine z_icmp (t := 121) (ck_at dt_bracket 61 rfl) rfl p1 ⟨by decide, by decide⟩ ?_ ?_
    · intro q; have w := w.1 q
      refine z_op (ck_at dt_bracket 64 rfl) rfl (o_bipush _ (by decide)) ?_
      exact z_wk (r_bracket_123_ok hm w) ⟨rfl, ⟨rfl, ⟨rfl, trivial⟩⟩⟩
    · intro q; have w := w.2 q
      refine z_op (ck_at dt_bracket 62 rfl) rfl (o_const _) ?_
      refine z_goto (t := 123) (ck_at dt_bracket 63 rfl) rfl ?_
      exact z_wk (r_bracket_123_ok hm w) ⟨rfl, ⟨rfl, ⟨rfl, trivial⟩⟩⟩
  · intro q; have w := w.2 q
    refine z_op (ck_at dt_bracket 57 rfl) rfl (o_const _) ?_
    refine z_goto (t := 123) (ck_at dt_bracket 58 rfl) rfl ?_
    exact z_wk (r_bracket_123_ok hm w) ⟨rfl, ⟨rfl, ⟨rfl, trivial⟩⟩⟩
def r_bracket_97 (m : Nat) (h0 : qH) (d : Nat) (s0 : Int) (B : qB) (Q : qO → qB → Prop) : Prop := Q (.inl none) B
theorem r_bracket_97_ok {m : Nat} {h0 : qH} {d : Nat} {s0 : Int} {B : qB} {Q : qO → qB → Prop} (hm : m + 100 < 1000000000) (w : r_bracket_97 m h0 d s0 B Q) : qZ m h0 (d + 1) k_bracket 97 [none, none, none, none, none] [iv s0] B Q := by
  unfold r_bracket_97 at w
  refine z_op (ck_at dt_bracket 52 rfl) rfl rfl ?_
  exact z_ret0 (ck_at dt_bracket 53 rfl) rt_bracket w
def r_bracket_66 (m : Nat) (h0 : qH) (d : Nat) (x1 x3 s0 : Int) (B : qB) (Q : qO → qB → Prop) : Prop := R32 s0 ∧ (s0 = 58 → r_bracket_99 m h0 d x1 x3 s0 B Q) ∧ (¬ s0 = 58 → (s0 = 61 → r_bracket_99 m h0 d x1 x3 s0 B Q) ∧ (¬ s0 = 61 → (s0 = 33 → r_bracket_99 m h0 d x1 x3 s0 B Q) ∧ (¬ s0 = 33 → qZ m h0 d k_wrong 0 [some (.ref m), some (iv (B 33 0))] [] B (fun o B' => ∃ v : Int, o = .inl (some (iv v)) ∧ r_bracket_97 m h0 d v B' Q))))
theorem r_bracket_66_ok {m : Nat} {h0 : qH} {d : Nat} {x1 x3 s0 : Int} {B : qB} {Q : qO → qB → Prop} (hm : m + 100 < 1000000000) (w : r_bracket_66 m h0 d x1 x3 s0 B Q) : qZ m h0 (d + 1) k_bracket 66 [some (.ref m), some (iv x1), none, some (iv x3), none] [iv s0] B Q := by
  unfold r_bracket_66 at w
  obtain ⟨p1, w⟩ := w
  refine z_st1 (ok := q_isI) (n := 4) (L' := [some (.ref m), some (iv x1), none, some (iv x3), some (iv s0)]) (ck_at dt_bracket 38 rfl) rfl (fun _ => rfl) (fun _ _ => rfl) rfl nl_bracket (by decide) rfl rfl ?_
  refine z_ldk (ok := q_isI) (n := 4) (ck_at dt_bracket 39 rfl) rfl rfl (fun _ => rfl) rfl rfl ?_
  refine z_op (ck_at dt_bracket 40 rfl) rfl (o_bipush _ (by decide)) ?_
  refine z_icmp (t := 99) (ck_at dt_bracket 41 rfl) rfl p1 ⟨by decide, by decide⟩ ?_ ?_
  · intro q; have w := w.1 q
    exact z_wk (r_bracket_99_ok hm w) ⟨rfl, ⟨rfl, ⟨rfl, ⟨rfl, trivial⟩⟩⟩⟩
  · intro q; have w := w.2 q
    refine z_ldk (ok := q_isI) (n := 4) (ck_at dt_bracket 42 rfl) rfl rfl (fun _ => rfl) rfl rfl ?_
    refine z_op (ck_at dt_bracket 43 rfl) rfl (o_bipush _ (by decide)) ?_
    refine z_icmp (t := 99) (ck_at dt_bracket 44 rfl) rfl p1 ⟨by decide, by decide⟩ ?_ ?_
    · intro q; have w := w.1 q
      exact z_wk (r_bracket_99_ok hm w) ⟨rfl, ⟨rfl, ⟨rfl, ⟨rfl, trivial⟩⟩⟩⟩
    · intro q; have w := w.2 q
      refine z_ldk (ok := q_isI) (n := 4) (ck_at dt_bracket 45 rfl) rfl rfl (fun _ => rfl) rfl rfl ?_
      refine z_op (ck_at dt_bracket 46 rfl) rfl (o_bipush _ (by decide)) ?_
      refine z_icmp (t := 99) (ck_at dt_bracket 47 rfl) rfl p1 ⟨by decide, by decide⟩ ?_ ?_
      · intro q; have w := w.1 q
        exact z_wk (r_bracket_99_ok hm w) ⟨rfl, ⟨rfl, ⟨rfl, ⟨rfl, trivial⟩⟩⟩⟩
      · intro q; have w := w.2 q
        refine z_ldk (ok := q_isA) (n := 0) (ck_at dt_bracket 48 rfl) rfl rfl (fun _ => rfl) rfl rfl ?_
        refine z_ldk (ok := q_isA) (n := 0) (ck_at dt_bracket 49 rfl) rfl rfl (fun _ => rfl) rfl rfl ?_
        refine z_getI (j := 33) (ck_at dt_bracket 50 rfl) own_bracket (mf_at 57 rfl) (by decide) rfl ?_
        refine z_virt (k' := k_wrong) (n := 0) (as := [iv (B 33 0)]) (r := []) (ck_at dt_bracket 51 rfl) own_bracket (mm_at 14 rfl) vk_wrong rfl nl_wrong rfl rfl rfl rfl ?_
        exact w.mono (Nat.le_refl _) (fun o B' ⟨v, ho, w⟩ => ⟨some (iv v), ho, z_wk (r_bracket_97_ok hm w) trivial⟩)
def r_bracket_43 (m : Nat) (h0 : qH) (d : Nat) (x1 x2 x3 s0 : Int) (B : qB) (Q : qO → qB → Prop) : Prop := R32 s0 ∧ (¬ s0 = 63 → R32 (B 30 0) ∧ (¬ B 30 0 = 9 → r_bracket_197 m h0 d x1 x2 ((B 30 0) + 1) (u2 B 30 0 ((B 30 0) + 1)) Q) ∧ (B 30 0 = 9 → qZ m h0 d k_wrong 0 [some (.ref m), some (iv x1)] [] B (fun o B' => ∃ v : Int, o = .inl (some (iv v)) ∧ r_bracket_180 m h0 d v B' Q))) ∧ (s0 = 63 → qZ m h0 d k_signAt 0 [some (.ref m), some (iv ((B 33 0) + 1))] [] (u2 B 33 0 ((B 33 0) + 1)) (fun o B' => ∃ v : Int, o = .inl (some (iv v)) ∧ r_bracket_66 m h0 d x1 x3 v B' Q))
theorem r_bracket_43_ok {m : Nat} {h0 : qH} {d : Nat} {x1 x2 x3 s0 : Int} {B : qB} {Q : qO → qB → Prop} (hm : m + 100 < 1000000000) (w : r_bracket_43 m h0 d x1 x2 x3 s0 B Q) : qZ m h0 (d + 1) k_bracket 43 [some (.ref m), some (iv x1), some (iv x2), some (iv x3), none] [iv s0] B Q := by
  unfold r_bracket_43 at w
  obtain ⟨p1, w⟩ := w
  refine z_op (ck_at dt_bracket 26 rfl) rfl (o_bipush _ (by decide)) ?_
  refine z_icmp (t := 166) (ck_at dt_bracket 27 rfl) rfl p1 ⟨by decide, by decide⟩ ?_ ?_
  · intro q; have w := w.1 q
    obtain ⟨p2, w⟩ := w
    refine z_ldk (ok := q_isA) (n := 0) (ck_at dt_bracket 90 rfl) rfl rfl (fun _ => rfl) rfl rfl ?_
    refine z_getI (j := 30) (ck_at dt_bracket 91 rfl) own_bracket (mf_at 53 rfl) (by decide) rfl ?_
    refine z_op (ck_at dt_bracket 92 rfl) rfl (o_bipush _ (by decide)) ?_
    refine z_icmp (t := 182) (ck_at dt_bracket 93 rfl) rfl p2 ⟨by decide, by decide⟩ ?_ ?_
    · intro q; have w := w.1 q
      refine z_ldk (ok := q_isA) (n := 0) (ck_at dt_bracket 99 rfl) rfl rfl (fun _ => rfl) rfl rfl ?_
      refine z_op (ck_at dt_bracket 100 rfl) rfl rfl ?_
      refine z_getI (j := 30) (ck_at dt_bracket 101 rfl) own_bracket (mf_at 53 rfl) (by decide) rfl ?_
      refine z_op (ck_at dt_bracket 102 rfl) rfl (o_const _) ?_
      refine z_op (ck_at dt_bracket 103 rfl) rfl o_iadd ?_
      refine z_putI (j := 30) hm (ck_at dt_bracket 104 rfl) own_bracket (mf_at 53 rfl) (by decide) rfl rfl rfl ?_
      refine z_ldk (ok := q_isA) (n := 0) (ck_at dt_bracket 105 rfl) rfl rfl (fun _ => rfl) rfl rfl ?_
      refine z_getI (j := 30) (ck_at dt_bracket 106 rfl) own_bracket (mf_at 53 rfl) (by decide) rfl ?_
      refine z_st1 (ok := q_isI) (n := 3) (L' := [some (.ref m), some (iv x1), some (iv x2), some (iv ((B 30 0) + 1)), none]) (ck_at dt_bracket 107 rfl) rfl (fun _ => rfl) (fun _ _ => rfl) rfl nl_bracket (by decide) rfl rfl ?_
      exact z_wk (r_bracket_197_ok hm w) ⟨rfl, ⟨rfl, ⟨rfl, ⟨rfl, trivial⟩⟩⟩⟩
    · intro q; have w := w.2 q
      refine z_ldk (ok := q_isA) (n := 0) (ck_at dt_bracket 94 rfl) rfl rfl (fun _ => rfl) rfl rfl ?_
      refine z_ldk (ok := q_isI) (n := 1) (ck_at dt_bracket 95 rfl) rfl rfl (fun _ => rfl) rfl rfl ?_
      refine z_virt (k' := k_wrong) (n := 0) (as := [iv x1]) (r := []) (ck_at dt_bracket 96 rfl) own_bracket (mm_at 14 rfl) vk_wrong rfl nl_wrong rfl rfl rfl rfl ?_
      exact w.mono (Nat.le_refl _) (fun o B' ⟨v, ho, w⟩ => ⟨some (iv v), ho, z_wk (r_bracket_180_ok hm w) trivial⟩)
  · intro q; have w := w.2 q
    refine z_ldk (ok := q_isA) (n := 0) (ck_at dt_bracket 28 rfl) rfl rfl (fun _ => rfl) rfl rfl ?_
    refine z_op (ck_at dt_bracket 29 rfl) rfl rfl ?_
    refine z_getI (j := 33) (ck_at dt_bracket 30 rfl) own_bracket (mf_at 57 rfl) (by decide) rfl ?_
    refine z_op (ck_at dt_bracket 31 rfl) rfl (o_const _) ?_
    refine z_op (ck_at dt_bracket 32 rfl) rfl o_iadd ?_
    refine z_putI (j := 33) hm (ck_at dt_bracket 33 rfl) own_bracket (mf_at 57 rfl) (by decide) rfl rfl rfl ?_
    refine z_ldk (ok := q_isA) (n := 0) (ck_at dt_bracket 34 rfl) rfl rfl (fun _ => rfl) rfl rfl ?_
    refine z_ldk (ok := q_isA) (n := 0) (ck_at dt_bracket 35 rfl) rfl rfl (fun _ => rfl) rfl rfl ?_
    refine z_getI (j := 33) (ck_at dt_bracket 36 rfl) own_bracket (mf_at 57 rfl) (by decide) rfl ?_
    refine z_virt (k' := k_signAt) (n := 0) (as := [iv ((B 33 0) + 1)]) (r := []) (ck_at dt_bracket 37 rfl) own_bracket (mm_at 6 rfl) vk_signAt rfl nl_signAt rfl rfl rfl rfl ?_
    exact w.mono (Nat.le_refl _) (fun o B' ⟨v, ho, w⟩ => ⟨some (iv v), ho, z_wk (r_bracket_66_ok hm w) ⟨rfl, ⟨rfl, ⟨rfl, trivial⟩⟩⟩⟩)
def r_bracket_19 (m : Nat) (h0 : qH) (d : Nat) (s0 : Int) (B : qB) (Q : qO → qB → Prop) : Prop := Q (.inl none) B
theorem r_bracket_19_ok {m : Nat} {h0 : qH} {d : Nat} {s0 : Int} {B : qB} {Q : qO → qB → Prop} (hm : m + 100 < 1000000000) (w : r_bracket_19 m h0 d s0 B Q) : qZ m h0 (d + 1) k_bracket 19 [none, none, none, none, none] [iv s0] B Q := by
  unfold r_bracket_19 at w
  refine z_op (ck_at dt_bracket 10 rfl) rfl rfl ?_
  exact z_ret0 (ck_at dt_bracket 11 rfl) rt_bracket w
def r_bracket_0 (m : Nat) (h0 : qH) (d : Nat) (B : qB) (Q : qO → qB → Prop) : Prop := R32 (B 41 0) ∧ (¬ B 41 0 = 11 → qZ m h0 d k_signAt 0 [some (.ref m), some (iv ((B 33 0) + 1))] [] (u2 B 33 0 ((B 33 0) + 1)) (fun o B' => ∃ v : Int, o = .inl (some (iv v)) ∧ r_bracket_43 m h0 d (B 33 0) 4 0 v B' Q)) ∧ (B 41 0 = 11 → qZ m h0 d k_wrong 0 [some (.ref m), some (iv (B 33 0))] [] B (fun o B' => ∃ v : Int, o = .inl (some (iv v)) ∧ r_bracket_19 m h0 d v B' Q))
theorem r_bracket_0_ok {m : Nat} {h0 : qH} {d : Nat} {B : qB} {Q : qO → qB → Prop} (hm : m + 100 < 1000000000) (w : r_bracket_0 m h0 d B Q) : qZ m h0 (d + 1) k_bracket 0 [some (.ref m), none, none, none, none] [] B Q := by
  unfold r_bracket_0 at w
  obtain ⟨p1, w⟩ := w
  refine z_ldk (ok := q_isA) (n := 0) (ck_at dt_bracket 0 rfl) rfl rfl (fun _ => rfl) rfl rfl ?_
  refine z_getI (j := 33) (ck_at dt_bracket 1 rfl) own_bracket (mf_at 57 rfl) (by decide) rfl ?_
  refine z_st1 (ok := q_isI) (n := 1) (L' := [some (.ref m), some (iv (B 33 0)), none, none, none]) (ck_at dt_bracket 2 rfl) rfl (fun _ => rfl) (fun _ _ => rfl) rfl nl_bracket (by decide) rfl rfl ?_
  refine z_ldk (ok := q_isA) (n := 0) (ck_at dt_bracket 3 rfl) rfl rfl (fun _ => rfl) rfl rfl ?_
  refine z_getI (j := 41) (ck_at dt_bracket 4 rfl) own_bracket (mf_at 58 rfl) (by decide) rfl ?_
  refine z_op (ck_at dt_bracket 5 rfl) rfl (o_bipush _ (by decide)) ?_
  refine z_icmp (t := 21) (ck_at dt_bracket 6 rfl) rfl p1 ⟨by decide, by decide⟩ ?_ ?_
  · intro q; have w := w.1 q
    refine z_ldk (ok := q_isA) (n := 0) (ck_at dt_bracket 12 rfl) rfl rfl (fun _ => rfl) rfl rfl ?_
    refine z_op (ck_at dt_bracket 13 rfl) rfl rfl ?_
    refine z_getI (j := 33) (ck_at dt_bracket 14 rfl) own_bracket (mf_at 57 rfl) (by decide) rfl ?_
    refine z_op (ck_at dt_bracket 15 rfl) rfl (o_const _) ?_
    refine z_op (ck_at dt_bracket 16 rfl) rfl o_iadd ?_
    refine z_putI (j := 33) hm (ck_at dt_bracket 17 rfl) own_bracket (mf_at 57 rfl) (by decide) rfl rfl rfl ?_
    refine z_op (ck_at dt_bracket 18 rfl) rfl (o_const _) ?_
    refine z_st1 (ok := q_isI) (n := 2) (L' := [some (.ref m), some (iv (B 33 0)), some (iv 4), none, none]) (ck_at dt_bracket 19 rfl) rfl (fun _ => rfl) (fun _ _ => rfl) rfl nl_bracket (by decide) rfl rfl ?_
    refine z_op (ck_at dt_bracket 20 rfl) rfl (o_const _) ?_
    refine z_st1 (ok := q_isI) (n := 3) (L' := [some (.ref m), some (iv (B 33 0)), some (iv 4), some (iv 0), none]) (ck_at dt_bracket 21 rfl) rfl (fun _ => rfl) (fun _ _ => rfl) rfl nl_bracket (by decide) rfl rfl ?_
    refine z_ldk (ok := q_isA) (n := 0) (ck_at dt_bracket 22 rfl) rfl rfl (fun _ => rfl) rfl rfl ?_
    refine z_ldk (ok := q_isA) (n := 0) (ck_at dt_bracket 23 rfl) rfl rfl (fun _ => rfl) rfl rfl ?_
    refine z_getI (j := 33) (ck_at dt_bracket 24 rfl) own_bracket (mf_at 57 rfl) (by decide) rfl ?_
    refine z_virt (k' := k_signAt) (n := 0) (as := [iv ((B 33 0) + 1)]) (r := []) (ck_at dt_bracket 25 rfl) own_bracket (mm_at 6 rfl) vk_signAt rfl nl_signAt rfl rfl rfl rfl ?_
    exact w.mono (Nat.le_refl _) (fun o B' ⟨v, ho, w⟩ => ⟨some (iv v), ho, z_wk (r_bracket_43_ok hm w) ⟨rfl, ⟨rfl, ⟨rfl, ⟨rfl, trivial⟩⟩⟩⟩⟩)
  · intro q; have w := w.2 q
    refine z_ldk (ok := q_isA) (n := 0) (ck_at dt_bracket 7 rfl) rfl rfl (fun _ => rfl) rfl rfl ?_
    refine z_ldk (ok := q_isI) (n := 1) (ck_at dt_bracket 8 rfl) rfl rfl (fun _ => rfl) rfl rfl ?_
    refine z_virt (k' := k_wrong) (n := 0) (as := [iv (B 33 0)]) (r := []) (ck_at dt_bracket 9 rfl) own_bracket (mm_at 14 rfl) vk_wrong rfl nl_wrong rfl rfl rfl rfl ?_
    exact w.mono (Nat.le_refl _) (fun o B' ⟨v, ho, w⟩ => ⟨some (iv v), ho, z_wk (r_bracket_19_ok hm w) trivial⟩)
/-! close()V -/
def t_close : List (Nat × Instr × Nat) := [(0, .aload_n 0, 1), (1, .getfield 200, 3), (4, .iconst 1, 1), (5, .if_icmp .ne 13, 3), (8, .aload_n 0, 1), (9, .aload_n 0, 1), (10, .getfield 213, 3), (13, .invokevirtual 242, 3), (16, .pop, 1), (17, .return_, 1), (18, .aload_n 0, 1), (19, .dup, 1), (20, .getfield 213, 3), (23, .iconst 1, 1), (24, .iadd, 1), (25, .putfield 213, 3), (28, .aload_n 0, 1), (29, .invokevirtual 223, 3), (32, .istore_n 1, 1), (33, .aload_n 0, 1), (34, .dup, 1), (35, .getfield 200, 3), (38, .iconst 1, 1), (39, .isub, 1), (40, .putfield 200, 3), (43, .aload_n 0, 1), (44, .getfield 85, 3), (47, .aload_n 0, 1), (48, .getfield 200, 3), (51, .iaload, 1), (52, .istore_n 2, 1), (53, .iload_n 2, 1), (54, .iconst 1, 1), (55, .if_icmp .ne 20, 3), (58, .aload_n 0, 1), (59, .iconst 1, 1), (60, .iload_n 1, 1), (61, .aload_n 0, 1), (62, .bipush 11, 2), (64, .iconst 0, 1), (65, .iconst 0, 1), (66, .invokevirtual 196, 3), (69, .invokevirtual 196, 3), (72, .goto 18, 3), (75, .aload_n 0, 1), (76, .iload_n 2, 1), (77, .iload_n 1, 1), (78, .aload_n 0, 1), (79, .getfield 88, 3), (82, .aload_n 0, 1), (83, .getfield 200, 3), (86, .iaload, 1), (87, .invokevirtual 196, 3), (90, .istore_n 3, 1), (91, .aload_n 0, 1), (92, .getfield 71, 3), (95, .iload_n 3, 1), (96, .aload_n 0, 1), (97, .getfield 71, 3), (100, .iload_n 1, 1), (101, .iaload, 1), (102, .iload_n 2, 1), (103, .iconst 4, 1), (104, .if_icmp .ne 7, 3), (107, .iconst 2, 1), (108, .goto 4, 3), (111, .iconst 1, 1), (112, .iadd, 1), (113, .iastore, 1), (114, .aload_n 0, 1), (115, .getfield 74, 3), (118, .iload_n 3, 1), (119, .aload_n 0, 1), (120, .getfield 74, 3), (123, .iload_n 1, 1), (124, .baload, 1), (125, .ifCond .ne 14, 3), (128, .iload_n 2, 1), (129, .iconst 5, 1), (130, .if_icmp .eq 9, 3), (133, .iload_n 2, 1), (134, .bipush 6, 2), (136, .if_icmp .ne 7, 3), (139, .iconst 1, 1), (140, .goto 4, 3), (143, .iconst 0, 1), (144, .bastore, 1), (145, .iload_n 2, 1), (146, .iconst 5, 1), (147, .if_icmp .eq 9, 3), (150, .iload_n 2, 1), (151, .bipush 6, 2), (153, .if_icmp .ne 13, 3), (156, .aload_n 0, 1), (157, .dup, 1), (158, .getfield 210, 3), (161, .iconst 1, 1), (162, .isub, 1), (163, .putfield 210, 3), (166, .aload_n 0, 1), (167, .aload_n 0, 1), (168, .iload_n 3, 1), (169, .invokevirtual 236, 3), (172, .invokevirtual 239, 3), (175, .return_, 1)]
set_option maxRecDepth 100000 in
theorem dt_close : q_ck k_close t_close = true := by decide +kernel
def r_close_175 (m : Nat) (h0 : qH) (d : Nat) (B : qB) (Q : qO → qB → Prop) : Prop := Q (.inl none) B
theorem r_close_175_ok {m : Nat} {h0 : qH} {d : Nat} {B : qB} {Q : qO → qB → Prop} (hm : m + 100 < 1000000000) (w : r_close_175 m h0 d B Q) : qZ m h0 (d + 1) k_close 175 [none, none, none, none] [] B Q := by
  unfold r_close_175 at w
  exact z_ret0 (ck_at dt_close 104 rfl) rt_close w
def r_close_172 (m : Nat) (h0 : qH) (d : Nat) (s1 : Int) (B : qB) (Q : qO → qB → Prop) : Prop := qZ m h0 d k_joins 0 [some (.ref m), some (iv s1), none] [] B (fun o B' => o = .inl none ∧ r_close_175 m h0 d B' Q)
theorem r_close_172_ok {m : Nat} {h0 : qH} {d : Nat} {s1 : Int} {B : qB} {Q : qO → qB → Prop} (hm : m + 100 < 1000000000) (w : r_close_172 m h0 d s1 B Q) : qZ m h0 (d + 1) k_close 172 [none, none, none, none] [iv s1, .ref m] B Q := by
  unfold r_close_172 at w
  refine z_virt (k' := k_joins) (n := 1) (as := [iv s1]) (r := []) (ck_at dt_close 103 rfl) own_close (mm_at 13 rfl) vk_joins rfl nl_joins rfl rfl rfl rfl ?_
  exact w.mono (Nat.le_refl _) (fun o B' ⟨ho, w⟩ => ⟨none, ho, z_wk (r_close_175_ok hm w) trivial⟩)
def r_close_166 (m : Nat) (h0 : qH) (d : Nat) (x3 : Int) (B : qB) (Q : qO → qB → Prop) : Prop := qZ m h0 d k_quantified 0 [some (.ref m), some (iv x3), none, none, none, none, none, none] [] B (fun o B' => ∃ v : Int, o = .inl (some (iv v)) ∧ r_close_172 m h0 d v B' Q)
theorem r_close_166_ok {m : Nat} {h0 : qH} {d : Nat} {x3 : Int} {B : qB} {Q : qO → qB → Prop} (hm : m + 100 < 1000000000) (w : r_close_166 m h0 d x3 B Q) : qZ m h0 (d + 1) k_close 166 [some (.ref m), none, none, some (iv x3)] [] B Q := by
  unfold r_close_166 at w
  refine z_ldk (ok := q_isA) (n := 0) (ck_at dt_close 99 rfl) rfl rfl (fun _ => rfl) rfl rfl ?_
  refine z_ldk (ok := q_isA) (n := 0) (ck_at dt_close 100 rfl) rfl rfl (fun _ => rfl) rfl rfl ?_
  refine z_ldk (ok := q_isI) (n := 3) (ck_at dt_close 101 rfl) rfl rfl (fun _ => rfl) rfl rfl ?_
  refine z_virt (k' := k_quantified) (n := 6) (as := [iv x3]) (r := [.ref m]) (ck_at dt_close 102 rfl) own_close (mm_at 12 rfl) vk_quantified rfl nl_quantified rfl rfl rfl rfl ?_
  exact w.mono (Nat.le_refl _) (fun o B' ⟨v, ho, w⟩ => ⟨some (iv v), ho, z_wk (r_close_172_ok hm w) trivial⟩)
def r_close_156 (m : Nat) (h0 : qH) (d : Nat) (x3 : Int) (B : qB) (Q : qO → qB → Prop) : Prop := r_close_166 m h0 d x3 (u2 B 26 0 ((B 26 0) - 1)) Q
theorem r_close_156_ok {m : Nat} {h0 : qH} {d : Nat} {x3 : Int} {B : qB} {Q : qO → qB → Prop} (hm : m + 100 < 1000000000) (w : r_close_156 m h0 d x3 B Q) : qZ m h0 (d + 1) k_close 156 [some (.ref m), none, none, some (iv x3)] [] B Q := by
  unfold r_close_156 at w
  refine z_ldk (ok := q_isA) (n := 0) (ck_at dt_close 93 rfl) rfl rfl (fun _ => rfl) rfl rfl ?_
  refine z_op (ck_at dt_close 94 rfl) rfl rfl ?_
  refine z_getI (j := 26) (ck_at dt_close 95 rfl) own_close (mf_at 56 rfl) (by decide) rfl ?_
  refine z_op (ck_at dt_close 96 rfl) rfl (o_const _) ?_
  refine z_op (ck_at dt_close 97 rfl) rfl o_isub ?_
  refine z_putI (j := 26) hm (ck_at dt_close 98 rfl) own_close (mf_at 56 rfl) (by decide) rfl rfl rfl ?_
  exact z_wk (r_close_166_ok hm w) ⟨rfl, ⟨rfl, trivial⟩⟩
def r_close_144 (m : Nat) (h0 : qH) (d : Nat) (x2 x3 s1 s2 : Int) (B : qB) (Q : qO → qB → Prop) : Prop := 0 ≤ s1 ∧ s1 < 3000 ∧ (s2 = 0 ∨ s2 = 1) ∧ R32 x2 ∧ (x2 = 5 → r_close_156 m h0 d x3 (u2 B 25 s1 s2) Q) ∧ (¬ x2 = 5 → (¬ x2 = 6 → r_close_166 m h0 d x3 (u2 B 25 s1 s2) Q) ∧ (x2 = 6 → r_close_156 m h0 d x3 (u2 B 25 s1 s2) Q))
theorem r_close_144_ok {m : Nat} {h0 : qH} {d : Nat} {x2 x3 s1 s2 : Int} {B : qB} {Q : qO → qB → Prop} (hm : m + 100 < 1000000000) (w : r_close_144 m h0 d x2 x3 s1 s2 B Q) : qZ m h0 (d + 1) k_close 144 [some (.ref m), none, some (iv x2), some (iv x3)] [iv s2, iv s1, .ref (m + 1 + 20)] B Q := by
  unfold r_close_144 at w
  obtain ⟨p1, p2, p3, p4, w⟩ := w
  refine z_bast (j := 25) (n := 3000) hm (ck_at dt_close 86 rfl) rfl rfl rfl p1 p2 p3 ?_
  refine z_ldk (ok := q_isI) (n := 2) (ck_at dt_close 87 rfl) rfl rfl (fun _ => rfl) rfl rfl ?_
  refine z_op (ck_at dt_close 88 rfl) rfl (o_const _) ?_
  refine z_icmp (t := 156) (ck_at dt_close 89 rfl) rfl p4 ⟨by decide, by decide⟩ ?_ ?_
  · intro q; have w := w.1 q
    exact z_wk (r_close_156_ok hm w) ⟨rfl, ⟨rfl, trivial⟩⟩
  · intro q; have w := w.2 q
    refine z_ldk (ok := q_isI) (n := 2) (ck_at dt_close 90 rfl) rfl rfl (fun _ => rfl) rfl rfl ?_
    refine z_op (ck_at dt_close 91 rfl) rfl (o_bipush _ (by decide)) ?_
    refine z_icmp (t := 166) (ck_at dt_close 92 rfl) rfl p4 ⟨by decide, by decide⟩ ?_ ?_
    · intro q; have w := w.1 q
      exact z_wk (r_close_166_ok hm w) ⟨rfl, ⟨rfl, trivial⟩⟩
    · intro q; have w := w.2 q
      exact z_wk (r_close_156_ok hm w) ⟨rfl, ⟨rfl, trivial⟩⟩
def r_close_139 (m : Nat) (h0 : qH) (d : Nat) (x2 x3 s1 : Int) (B : qB) (Q : qO → qB → Prop) : Prop := r_close_144 m h0 d x2 x3 s1 1 B Q
theorem r_close_139_ok {m : Nat} {h0 : qH} {d : Nat} {x2 x3 s1 : Int} {B : qB} {Q : qO → qB → Prop} (hm : m + 100 < 1000000000) (w : r_close_139 m h0 d x2 x3 s1 B Q) : qZ m h0 (d + 1) k_close 139 [some (.ref m), none, some (iv x2), some (iv x3)] [iv s1, .ref (m + 1 + 20)] B Q := by
  unfold r_close_139 at w
  refine z_op (ck_at dt_close 83 rfl) rfl (o_const _) ?_
  refine z_goto (t := 144) (ck_at dt_close 84 rfl) rfl ?_
  exact z_wk (r_close_144_ok hm w) ⟨rfl, ⟨rfl, ⟨rfl, trivial⟩⟩⟩
def r_close_112 (m : Nat) (h0 : qH) (d : Nat) (x1 x2 x3 s1 s2 s3 : Int) (B : qB) (Q : qO → qB → Prop) : Prop := 0 ≤ s1 ∧ s1 < 3000 ∧ 0 ≤ x1 ∧ x1 < 3000 ∧ R32 (B 25 x1) ∧ (¬ B 25 x1 = 0 → r_close_139 m h0 d x2 x3 x3 (u2 B 24 s1 (s2 + s3)) Q) ∧ (B 25 x1 = 0 → R32 x2 ∧ (x2 = 5 → r_close_139 m h0 d x2 x3 x3 (u2 B 24 s1 (s2 + s3)) Q) ∧ (¬ x2 = 5 → (¬ x2 = 6 → r_close_144 m h0 d x2 x3 x3 0 (u2 B 24 s1 (s2 + s3)) Q) ∧ (x2 = 6 → r_close_139 m h0 d x2 x3 x3 (u2 B 24 s1 (s2 + s3)) Q)))
theorem r_close_112_ok {m : Nat} {h0 : qH} {d : Nat} {x1 x2 x3 s1 s2 s3 : Int} {B : qB} {Q : qO → qB → Prop} (hm : m + 100 < 1000000000) (w : r_close_112 m h0 d x1 x2 x3 s1 s2 s3 B Q) : qZ m h0 (d + 1) k_close 112 [some (.ref m), some (iv x1), some (iv x2), some (iv x3)] [iv s3, iv s2, iv s1, .ref (m + 1 + 19)] B Q := by
  unfold r_close_112 at w
  obtain ⟨p1, p2, p3, p4, p5, w⟩ := w
  refine z_op (ck_at dt_close 67 rfl) rfl o_iadd ?_
  refine z_iast (j := 24) (n := 3000) hm (ck_at dt_close 68 rfl) rfl rfl rfl p1 p2 ?_
  refine z_ldk (ok := q_isA) (n := 0) (ck_at dt_close 69 rfl) rfl rfl (fun _ => rfl) rfl rfl ?_
  refine z_getR (j := 25) (a := 20) (ck_at dt_close 70 rfl) own_close (mf_at 21 rfl) (by decide) rfl rfl ?_
  refine z_ldk (ok := q_isI) (n := 3) (ck_at dt_close 71 rfl) rfl rfl (fun _ => rfl) rfl rfl ?_
  refine z_ldk (ok := q_isA) (n := 0) (ck_at dt_close 72 rfl) rfl rfl (fun _ => rfl) rfl rfl ?_
  refine z_getR (j := 25) (a := 20) (ck_at dt_close 73 rfl) own_close (mf_at 21 rfl) (by decide) rfl rfl ?_
  refine z_ldk (ok := q_isI) (n := 1) (ck_at dt_close 74 rfl) rfl rfl (fun _ => rfl) rfl rfl ?_
  refine z_bald (j := 25) (n := 3000) (ck_at dt_close 75 rfl) rfl rfl rfl p3 p4 ?_
  refine z_ifz (t := 139) (ck_at dt_close 76 rfl) rfl p5 ?_ ?_
  · intro q; have w := w.1 q
    exact z_wk (r_close_139_ok hm w) ⟨rfl, ⟨rfl, ⟨rfl, trivial⟩⟩⟩
  · intro q; have w := w.2 q
    obtain ⟨p6, w⟩ := w
    refine z_ldk (ok := q_isI) (n := 2) (ck_at dt_close 77 rfl) rfl rfl (fun _ => rfl) rfl rfl ?_
    refine z_op (ck_at dt_close 78 rfl) rfl (o_const _) ?_
    refine z_icmp (t := 139) (ck_at dt_close 79 rfl) rfl p6 ⟨by decide, by decide⟩ ?_ ?_
    · intro q; have w := w.1 q
      exact z_wk (r_close_139_ok hm w) ⟨rfl, ⟨rfl, ⟨rfl, trivial⟩⟩⟩
    · intro q; have w := w.2 q
      refine z_ldk (ok := q_isI) (n := 2) (ck_at dt_close 80 rfl) rfl rfl (fun _ => rfl) rfl rfl ?_
      refine z_op (ck_at dt_close 81 rfl) rfl (o_bipush _ (by decide)) ?_
      refine z_icmp (t := 143) (ck_at dt_close 82 rfl) rfl p6 ⟨by decide, by decide⟩ ?_ ?_
      · intro q; have w := w.1 q
        refine z_op (ck_at dt_close 85 rfl) rfl (o_const _) ?_
        exact z_wk (r_close_144_ok hm w) ⟨rfl, ⟨rfl, ⟨rfl, trivial⟩⟩⟩
      · intro q; have w := w.2 q
        exact z_wk (r_close_139_ok hm w) ⟨rfl, ⟨rfl, ⟨rfl, trivial⟩⟩⟩
def r_close_90 (m : Nat) (h0 : qH) (d : Nat) (x1 x2 s0 : Int) (B : qB) (Q : qO → qB → Prop) : Prop := 0 ≤ x1 ∧ x1 < 3000 ∧ R32 x2 ∧ (¬ x2 = 4 → r_close_112 m h0 d x1 x2 s0 s0 (B 24 x1) 1 B Q) ∧ (x2 = 4 → r_close_112 m h0 d x1 x2 s0 s0 (B 24 x1) 2 B Q)
theorem r_close_90_ok {m : Nat} {h0 : qH} {d : Nat} {x1 x2 s0 : Int} {B : qB} {Q : qO → qB → Prop} (hm : m + 100 < 1000000000) (w : r_close_90 m h0 d x1 x2 s0 B Q) : qZ m h0 (d + 1) k_close 90 [some (.ref m), some (iv x1), some (iv x2), none] [iv s0] B Q := by
  unfold r_close_90 at w
  obtain ⟨p1, p2, p3, w⟩ := w
  refine z_st1 (ok := q_isI) (n := 3) (L' := [some (.ref m), some (iv x1), some (iv x2), some (iv s0)]) (ck_at dt_close 53 rfl) rfl (fun _ => rfl) (fun _ _ => rfl) rfl nl_close (by decide) rfl rfl ?_
  refine z_ldk (ok := q_isA) (n := 0) (ck_at dt_close 54 rfl) rfl rfl (fun _ => rfl) rfl rfl ?_
  refine z_getR (j := 24) (a := 19) (ck_at dt_close 55 rfl) own_close (mf_at 20 rfl) (by decide) rfl rfl ?_
  refine z_ldk (ok := q_isI) (n := 3) (ck_at dt_close 56 rfl) rfl rfl (fun _ => rfl) rfl rfl ?_
  refine z_ldk (ok := q_isA) (n := 0) (ck_at dt_close 57 rfl) rfl rfl (fun _ => rfl) rfl rfl ?_
  refine z_getR (j := 24) (a := 19) (ck_at dt_close 58 rfl) own_close (mf_at 20 rfl) (by decide) rfl rfl ?_
  refine z_ldk (ok := q_isI) (n := 1) (ck_at dt_close 59 rfl) rfl rfl (fun _ => rfl) rfl rfl ?_
  refine z_iald (j := 24) (n := 3000) (ck_at dt_close 60 rfl) rfl rfl rfl p1 p2 ?_
  refine z_ldk (ok := q_isI) (n := 2) (ck_at dt_close 61 rfl) rfl rfl (fun _ => rfl) rfl rfl ?_
  refine z_op (ck_at dt_close 62 rfl) rfl (o_const _) ?_
  refine z_icmp (t := 111) (ck_at dt_close 63 rfl) rfl p3 ⟨by decide, by decide⟩ ?_ ?_
  · intro q; have w := w.1 q
    refine z_op (ck_at dt_close 66 rfl) rfl (o_const _) ?_
    exact z_wk (r_close_112_ok hm w) ⟨rfl, ⟨rfl, ⟨rfl, ⟨rfl, trivial⟩⟩⟩⟩
  · intro q; have w := w.2 q
    refine z_op (ck_at dt_close 64 rfl) rfl (o_const _) ?_
    refine z_goto (t := 112) (ck_at dt_close 65 rfl) rfl ?_
    exact z_wk (r_close_112_ok hm w) ⟨rfl, ⟨rfl, ⟨rfl, ⟨rfl, trivial⟩⟩⟩⟩
def r_close_72 (m : Nat) (h0 : qH) (d : Nat) (x1 x2 s0 : Int) (B : qB) (Q : qO → qB → Prop) : Prop := r_close_90 m h0 d x1 x2 s0 B Q
theorem r_close_72_ok {m : Nat} {h0 : qH} {d : Nat} {x1 x2 s0 : Int} {B : qB} {Q : qO → qB → Prop} (hm : m + 100 < 1000000000) (w : r_close_72 m h0 d x1 x2 s0 B Q) : qZ m h0 (d + 1) k_close 72 [some (.ref m), some (iv x1), some (iv x2), none] [iv s0] B Q := by
  unfold r_close_72 at w
  refine z_goto (t := 90) (ck_at dt_close 43 rfl) rfl ?_
  exact z_wk (r_close_90_ok hm w) ⟨rfl, ⟨rfl, ⟨rfl, trivial⟩⟩⟩
def r_close_69 (m : Nat) (h0 : qH) (d : Nat) (x1 x2 s1 s2 s3 : Int) (B : qB) (Q : qO → qB → Prop) : Prop := qZ m h0 d k_newNode 0 [some (.ref m), some (iv s1), some (iv s2), some (iv s3)] [] B (fun o B' => ∃ v : Int, o = .inl (some (iv v)) ∧ r_close_72 m h0 d x1 x2 v B' Q)
theorem r_close_69_ok {m : Nat} {h0 : qH} {d : Nat} {x1 x2 s1 s2 s3 : Int} {B : qB} {Q : qO → qB → Prop} (hm : m + 100 < 1000000000) (w : r_close_69 m h0 d x1 x2 s1 s2 s3 B Q) : qZ m h0 (d + 1) k_close 69 [some (.ref m), some (iv x1), some (iv x2), none] [iv s3, iv s2, iv s1, .ref m] B Q := by
  unfold r_close_69 at w
  refine z_virt (k' := k_newNode) (n := 0) (as := [iv s1, iv s2, iv s3]) (r := []) (ck_at dt_close 42 rfl) own_close (mm_at 8 rfl) vk_newNode rfl nl_newNode rfl rfl rfl rfl ?_
  exact w.mono (Nat.le_refl _) (fun o B' ⟨v, ho, w⟩ => ⟨some (iv v), ho, z_wk (r_close_72_ok hm w) ⟨rfl, ⟨rfl, ⟨rfl, trivial⟩⟩⟩⟩)
def r_close_32 (m : Nat) (h0 : qH) (d : Nat) (s0 : Int) (B : qB) (Q : qO → qB → Prop) : Prop := 0 ≤ (B 41 0) - 1 ∧ (B 41 0) - 1 < 12 ∧ R32 (B 36 ((B 41 0) - 1)) ∧ (¬ B 36 ((B 41 0) - 1) = 1 → qZ m h0 d k_newNode 0 [some (.ref m), some (iv (B 36 ((B 41 0) - 1))), some (iv s0), some (iv (B 37 ((B 41 0) - 1)))] [] (u2 B 41 0 ((B 41 0) - 1)) (fun o B' => ∃ v : Int, o = .inl (some (iv v)) ∧ r_close_90 m h0 d s0 (B 36 ((B 41 0) - 1)) v B' Q)) ∧ (B 36 ((B 41 0) - 1) = 1 → qZ m h0 d k_newNode 0 [some (.ref m), some (iv 11), some (iv 0), some (iv 0)] [] (u2 B 41 0 ((B 41 0) - 1)) (fun o B' => ∃ v : Int, o = .inl (some (iv v)) ∧ r_close_69 m h0 d s0 (B 36 ((B 41 0) - 1)) 1 s0 v B' Q))
theorem r_close_32_ok {m : Nat} {h0 : qH} {d : Nat} {s0 : Int} {B : qB} {Q : qO → qB → Prop} (hm : m + 100 < 1000000000) (w : r_close_32 m h0 d s0 B Q) : qZ m h0 (d + 1) k_close 32 [some (.ref m), none, none, none] [iv s0] B Q := by
  unfold r_close_32 at w
  obtain ⟨p1, p2, p3, w⟩ := w
  refine z_st1 (ok := q_isI) (n := 1) (L' := [some (.ref m), some (iv s0), none, none]) (ck_at dt_close 18 rfl) rfl (fun _ => rfl) (fun _ _ => rfl) rfl nl_close (by decide) rfl rfl ?_
  refine z_ldk (ok := q_isA) (n := 0) (ck_at dt_close 19 rfl) rfl rfl (fun _ => rfl) rfl rfl ?_
  refine z_op (ck_at dt_close 20 rfl) rfl rfl ?_
  refine z_getI (j := 41) (ck_at dt_close 21 rfl) own_close (mf_at 58 rfl) (by decide) rfl ?_
  refine z_op (ck_at dt_close 22 rfl) rfl (o_const _) ?_
  refine z_op (ck_at dt_close 23 rfl) rfl o_isub ?_
  refine z_putI (j := 41) hm (ck_at dt_close 24 rfl) own_close (mf_at 58 rfl) (by decide) rfl rfl rfl ?_
  refine z_ldk (ok := q_isA) (n := 0) (ck_at dt_close 25 rfl) rfl rfl (fun _ => rfl) rfl rfl ?_
  refine z_getR (j := 36) (a := 23) (ck_at dt_close 26 rfl) own_close (mf_at 24 rfl) (by decide) rfl rfl ?_
  refine z_ldk (ok := q_isA) (n := 0) (ck_at dt_close 27 rfl) rfl rfl (fun _ => rfl) rfl rfl ?_
  refine z_getI (j := 41) (ck_at dt_close 28 rfl) own_close (mf_at 58 rfl) (by decide) rfl ?_
  refine z_iald (j := 36) (n := 12) (ck_at dt_close 29 rfl) rfl rfl rfl p1 p2 ?_
  refine z_st1 (ok := q_isI) (n := 2) (L' := [some (.ref m), some (iv s0), some (iv (B 36 ((B 41 0) - 1))), none]) (ck_at dt_close 30 rfl) rfl (fun _ => rfl) (fun _ _ => rfl) rfl nl_close (by decide) rfl rfl ?_
  refine z_ldk (ok := q_isI) (n := 2) (ck_at dt_close 31 rfl) rfl rfl (fun _ => rfl) rfl rfl ?_
  refine z_op (ck_at dt_close 32 rfl) rfl (o_const _) ?_
  refine z_icmp (t := 75) (ck_at dt_close 33 rfl) rfl p3 ⟨by decide, by decide⟩ ?_ ?_
  · intro q; have w := w.1 q
    refine z_ldk (ok := q_isA) (n := 0) (ck_at dt_close 44 rfl) rfl rfl (fun _ => rfl) rfl rfl ?_
    refine z_ldk (ok := q_isI) (n := 2) (ck_at dt_close 45 rfl) rfl rfl (fun _ => rfl) rfl rfl ?_
    refine z_ldk (ok := q_isI) (n := 1) (ck_at dt_close 46 rfl) rfl rfl (fun _ => rfl) rfl rfl ?_
    refine z_ldk (ok := q_isA) (n := 0) (ck_at dt_close 47 rfl) rfl rfl (fun _ => rfl) rfl rfl ?_
    refine z_getR (j := 37) (a := 24) (ck_at dt_close 48 rfl) own_close (mf_at 25 rfl) (by decide) rfl rfl ?_
    refine z_ldk (ok := q_isA) (n := 0) (ck_at dt_close 49 rfl) rfl rfl (fun _ => rfl) rfl rfl ?_
    refine z_getI (j := 41) (ck_at dt_close 50 rfl) own_close (mf_at 58 rfl) (by decide) rfl ?_
    refine z_iald (j := 37) (n := 12) (ck_at dt_close 51 rfl) rfl rfl rfl p1 p2 ?_
    refine z_virt (k' := k_newNode) (n := 0) (as := [iv (B 36 ((B 41 0) - 1)), iv s0, iv (B 37 ((B 41 0) - 1))]) (r := []) (ck_at dt_close 52 rfl) own_close (mm_at 8 rfl) vk_newNode rfl nl_newNode rfl rfl rfl rfl ?_
    exact w.mono (Nat.le_refl _) (fun o B' ⟨v, ho, w⟩ => ⟨some (iv v), ho, z_wk (r_close_90_ok hm w) ⟨rfl, ⟨rfl, ⟨rfl, trivial⟩⟩⟩⟩)
  · intro q; have w := w.2 q
    refine z_ldk (ok := q_isA) (n := 0) (ck_at dt_close 34 rfl) rfl rfl (fun _ => rfl) rfl rfl ?_
    refine z_op (ck_at dt_close 35 rfl) rfl (o_const _) ?_
    refine z_ldk (ok := q_isI) (n := 1) (ck_at dt_close 36 rfl) rfl rfl (fun _ => rfl) rfl rfl ?_
    refine z_ldk (ok := q_isA) (n := 0) (ck_at dt_close 37 rfl) rfl rfl (fun _ => rfl) rfl rfl ?_
    refine z_op (ck_at dt_close 38 rfl) rfl (o_bipush _ (by decide)) ?_
    refine z_op (ck_at dt_close 39 rfl) rfl (o_const _) ?_
    refine z_op (ck_at dt_close 40 rfl) rfl (o_const _) ?_
    refine z_virt (k' := k_newNode) (n := 0) (as := [iv 11, iv 0, iv 0]) (r := [iv s0, iv 1, .ref m]) (ck_at dt_close 41 rfl) own_close (mm_at 8 rfl) vk_newNode rfl nl_newNode rfl rfl rfl rfl ?_
    exact w.mono (Nat.le_refl _) (fun o B' ⟨v, ho, w⟩ => ⟨some (iv v), ho, z_wk (r_close_69_ok hm w) ⟨rfl, ⟨rfl, ⟨rfl, trivial⟩⟩⟩⟩)
def r_close_16 (m : Nat) (h0 : qH) (d : Nat) (s0 : Int) (B : qB) (Q : qO → qB → Prop) : Prop := Q (.inl none) B
theorem r_close_16_ok {m : Nat} {h0 : qH} {d : Nat} {s0 : Int} {B : qB} {Q : qO → qB → Prop} (hm : m + 100 < 1000000000) (w : r_close_16 m h0 d s0 B Q) : qZ m h0 (d + 1) k_close 16 [none, none, none, none] [iv s0] B Q := by
  unfold r_close_16 at w
  refine z_op (ck_at dt_close 8 rfl) rfl rfl ?_
  exact z_ret0 (ck_at dt_close 9 rfl) rt_close w
def r_close_0 (m : Nat) (h0 : qH) (d : Nat) (B : qB) (Q : qO → qB → Prop) : Prop := R32 (B 41 0) ∧ (¬ B 41 0 = 1 → qZ m h0 d k_closed 0 [some (.ref m), none] [] (u2 B 33 0 ((B 33 0) + 1)) (fun o B' => ∃ v : Int, o = .inl (some (iv v)) ∧ r_close_32 m h0 d v B' Q)) ∧ (B 41 0 = 1 → qZ m h0 d k_wrong 0 [some (.ref m), some (iv (B 33 0))] [] B (fun o B' => ∃ v : Int, o = .inl (some (iv v)) ∧ r_close_16 m h0 d v B' Q))
theorem r_close_0_ok {m : Nat} {h0 : qH} {d : Nat} {B : qB} {Q : qO → qB → Prop} (hm : m + 100 < 1000000000) (w : r_close_0 m h0 d B Q) : qZ m h0 (d + 1) k_close 0 [some (.ref m), none, none, none] [] B Q := by
  unfold r_close_0 at w
  obtain ⟨p1, w⟩ := w
  refine z_ldk (ok := q_isA) (n := 0) (ck_at dt_close 0 rfl) rfl rfl (fun _ => rfl) rfl rfl ?_
  refine z_getI (j := 41) (ck_at dt_close 1 rfl) own_close (mf_at 58 rfl) (by decide) rfl ?_
  refine z_op (ck_at dt_close 2 rfl) rfl (o_const _) ?_
  refine z_icmp (t := 18) (ck_at dt_close 3 rfl) rfl p1 ⟨by decide, by decide⟩ ?_ ?_
  · intro q; have w := w.1 q
    refine z_ldk (ok := q_isA) (n := 0) (ck_at dt_close 10 rfl) rfl rfl (fun _ => rfl) rfl rfl ?_
    refine z_op (ck_at dt_close 11 rfl) rfl rfl ?_
    refine z_getI (j := 33) (ck_at dt_close 12 rfl) own_close (mf_at 57 rfl) (by decide) rfl ?_
    refine z_op (ck_at dt_close 13 rfl) rfl (o_const _) ?_
    refine z_op (ck_at dt_close 14 rfl) rfl o_iadd ?_
    refine z_putI (j := 33) hm (ck_at dt_close 15 rfl) own_close (mf_at 57 rfl) (by decide) rfl rfl rfl ?_
    refine z_ldk (ok := q_isA) (n := 0) (ck_at dt_close 16 rfl) rfl rfl (fun _ => rfl) rfl rfl ?_
    refine z_virt (k' := k_closed) (n := 1) (as := []) (r := []) (ck_at dt_close 17 rfl) own_close (mm_at 7 rfl) vk_closed rfl nl_closed rfl rfl rfl rfl ?_
    exact w.mono (Nat.le_refl _) (fun o B' ⟨v, ho, w⟩ => ⟨some (iv v), ho, z_wk (r_close_32_ok hm w) ⟨rfl, trivial⟩⟩)
  · intro q; have w := w.2 q
    refine z_ldk (ok := q_isA) (n := 0) (ck_at dt_close 4 rfl) rfl rfl (fun _ => rfl) rfl rfl ?_
    refine z_ldk (ok := q_isA) (n := 0) (ck_at dt_close 5 rfl) rfl rfl (fun _ => rfl) rfl rfl ?_
    refine z_getI (j := 33) (ck_at dt_close 6 rfl) own_close (mf_at 57 rfl) (by decide) rfl ?_
    refine z_virt (k' := k_wrong) (n := 0) (as := [iv (B 33 0)]) (r := []) (ck_at dt_close 7 rfl) own_close (mm_at 14 rfl) vk_wrong rfl nl_wrong rfl rfl rfl rfl ?_
    exact w.mono (Nat.le_refl _) (fun o B' ⟨v, ho, w⟩ => ⟨some (iv v), ho, z_wk (r_close_16_ok hm w) trivial⟩)
/-! quantified(I)I -/
def t_quantified : List (Nat × Instr × Nat) := [(0, .aload_n 0, 1), (1, .getfield 183, 3), (4, .ifCond .lt 5, 3), (7, .iload_n 1, 1), (8, .ireturn, 1), (9, .aload_n 0, 1), (10, .getfield 50, 3), (13, .iload_n 1, 1), (14, .iaload, 1), (15, .bipush 7, 2), (17, .if_icmp .lt 14, 3), (20, .aload_n 0, 1), (21, .getfield 50, 3), (24, .iload_n 1, 1), (25, .iaload, 1), (26, .bipush 10, 2), (28, .if_icmp .le 24, 3), (31, .aload_n 0, 1), (32, .getfield 50, 3), (35, .iload_n 1, 1), (36, .iaload, 1), (37, .iconst 5, 1), (38, .if_icmp .eq 14, 3), (41, .aload_n 0, 1), (42, .getfield 50, 3), (45, .iload_n 1, 1), (46, .iaload, 1), (47, .bipush 6, 2), (49, .if_icmp .ne 7, 3), (52, .iconst 1, 1), (53, .goto 4, 3), (56, .iconst 0, 1), (57, .istore_n 2, 1), (58, .aload_n 0, 1), (59, .aload_n 0, 1), (60, .getfield 213, 3), (63, .invokevirtual 220, 3), (66, .istore_n 3, 1), (67, .iload_n 3, 1), (68, .bipush 42, 2), (70, .if_icmp .eq 23, 3), (73, .iload_n 3, 1), (74, .bipush 43, 2), (76, .if_icmp .eq 17, 3), (79, .iload_n 3, 1), (80, .bipush 63, 2), (82, .if_icmp .eq 11, 3), (85, .iload_n 3, 1), (86, .bipush 123, 2), (88, .if_icmp .eq 5, 3), (91, .iload_n 1, 1), (92, .ireturn, 1), (93, .iload_n 2, 1), (94, .ifCond .eq 12, 3), (97, .aload_n 0, 1), (98, .aload_n 0, 1), (99, .getfield 213, 3), (102, .invokevirtual 242, 3), (105, .ireturn, 1), (106, .iload_n 3, 1), (107, .bipush 43, 2), (109, .if_icmp .ne 7, 3), (112, .iconst 1, 1), (113, .goto 4, 3), (116, .iconst 0, 1), (117, .istore 4, 2), (119, .iload_n 3, 1), (120, .bipush 63, 2), (122, .if_icmp .ne 7, 3), (125, .iconst 1, 1), (126, .goto 4, 3), (129, .iconst (-1), 1), (130, .istore 5, 2), (132, .aload_n 0, 1), (133, .dup, 1), (134, .getfield 213, 3), (137, .iconst 1, 1), (138, .iadd, 1), (139, .putfield 213, 3), (142, .iload_n 3, 1), (143, .bipush 123, 2), (145, .if_icmp .ne 140, 3), (148, .aload_n 0, 1), (149, .invokevirtual 248, 3), (152, .istore 4, 2), (154, .iload 4, 2), (156, .istore 5, 2), (158, .aload_n 0, 1), (159, .getfield 183, 3), (162, .ifCond .ge 75, 3), (165, .aload_n 0, 1), (166, .aload_n 0, 1), (167, .getfield 213, 3), (170, .invokevirtual 220, 3), (173, .bipush 44, 2), (175, .if_icmp .ne 62, 3), (178, .aload_n 0, 1), (179, .dup, 1), (180, .getfield 213, 3), (183, .iconst 1, 1), (184, .iadd, 1), (185, .putfield 213, 3), (188, .iconst (-1), 1), (189, .istore 5, 2), (191, .aload_n 0, 1), (192, .aload_n 0, 1), (193, .getfield 213, 3), (196, .invokevirtual 220, 3), (199, .bipush 125, 2), (201, .if_icmp .eq 36, 3), (204, .aload_n 0, 1), (205, .getfield 213, 3), (208, .istore 6, 2), (210, .aload_n 0, 1), (211, .invokevirtual 248, 3), (214, .istore 5, 2), (216, .aload_n 0, 1), (217, .getfield 183, 3), (220, .ifCond .ge 17, 3), (223, .iload 5, 2), (225, .iload 4, 2), (227, .if_icmp .ge 10, 3), (230, .aload_n 0, 1), (231, .iload 6, 2), (233, .invokevirtual 242, 3), (236, .pop, 1), (237, .aload_n 0, 1), (238, .getfield 183, 3), (241, .ifCond .ge 25, 3), (244, .aload_n 0, 1), (245, .aload_n 0, 1), (246, .getfield 213, 3), (249, .invokevirtual 220, 3), (252, .bipush 125, 2), (254, .if_icmp .eq 12, 3), (257, .aload_n 0, 1), (258, .aload_n 0, 1), (259, .getfield 213, 3), (262, .invokevirtual 242, 3), (265, .pop, 1), (266, .aload_n 0, 1), (267, .getfield 183, 3), (270, .ifCond .lt 5, 3), (273, .iload_n 1, 1), (274, .ireturn, 1), (275, .aload_n 0, 1), (276, .dup, 1), (277, .getfield 213, 3), (280, .iconst 1, 1), (281, .iadd, 1), (282, .putfield 213, 3), (285, .aload_n 0, 1), (286, .iconst 3, 1), (287, .iload_n 1, 1), (288, .iconst 0, 1), (289, .invokevirtual 196, 3), (292, .istore 6, 2), (294, .aload_n 0, 1), (295, .getfield 59, 3), (298, .iload 6, 2), (300, .iload 4, 2), (302, .iastore, 1), (303, .aload_n 0, 1), (304, .getfield 62, 3), (307, .iload 6, 2), (309, .iload 5, 2), (311, .iastore, 1), (312, .aload_n 0, 1), (313, .getfield 71, 3), (316, .iload_n 1, 1), (317, .iaload, 1), (318, .iconst 1, 1), (319, .iadd, 1), (320, .istore 7, 2), (322, .iload_n 3, 1), (323, .bipush 43, 2), (325, .if_icmp .ne 15, 3), (328, .iconst 2, 1), (329, .aload_n 0, 1), (330, .getfield 71, 3), (333, .iload_n 1, 1), (334, .iaload, 1), (335, .imul, 1), (336, .iconst 1, 1), (337, .iadd, 1), (338, .istore 7, 2), (340, .iload_n 3, 1), (341, .bipush 123, 2), (343, .if_icmp .ne 45, 3), (346, .iload 4, 2), (348, .aload_n 0, 1), (349, .getfield 71, 3), (352, .iload_n 1, 1), (353, .iaload, 1), (354, .imul, 1), (355, .iload 5, 2), (357, .ifCond .ge 14, 3), (360, .aload_n 0, 1), (361, .getfield 71, 3), (364, .iload_n 1, 1), (365, .iaload, 1), (366, .iconst 1, 1), (367, .iadd, 1), (368, .goto 17, 3), (371, .iload 5, 2), (373, .iload 4, 2), (375, .isub, 1), (376, .aload_n 0, 1), (377, .getfield 71, 3), (380, .iload_n 1, 1), (381, .iaload, 1), (382, .iconst 1, 1), (383, .iadd, 1), (384, .imul, 1), (385, .iadd, 1), (386, .istore 7, 2), (388, .aload_n 0, 1), (389, .aload_n 0, 1), (390, .getfield 213, 3), (393, .invokevirtual 220, 3), (396, .bipush 63, 2), (398, .if_icmp .ne 24, 3), (401, .aload_n 0, 1), (402, .getfield 65, 3), (405, .iload 6, 2), (407, .iconst 1, 1), (408, .iastore, 1), (409, .aload_n 0, 1), (410, .dup, 1), (411, .getfield 213, 3), (414, .iconst 1, 1), (415, .iadd, 1), (416, .putfield 213, 3), (419, .goto 62, 3), (422, .aload_n 0, 1), (423, .aload_n 0, 1), (424, .getfield 213, 3), (427, .invokevirtual 220, 3), (430, .bipush 43, 2), (432, .if_icmp .ne 49, 3), (435, .aload_n 0, 1), (436, .getfield 210, 3), (439, .ifCond .gt 12, 3), (442, .aload_n 0, 1), (443, .getfield 74, 3), (446, .iload_n 1, 1), (447, .baload, 1), (448, .ifCond .eq 12, 3), (451, .aload_n 0, 1), (452, .aload_n 0, 1), (453, .getfield 213, 3), (456, .invokevirtual 242, 3), (459, .ireturn, 1), (460, .aload_n 0, 1), (461, .getfield 65, 3), (464, .iload 6, 2), (466, .iconst 2, 1), (467, .iastore, 1), (468, .iinc 7 1, 3), (471, .aload_n 0, 1), (472, .dup, 1), (473, .getfield 213, 3), (476, .iconst 1, 1), (477, .iadd, 1), (478, .putfield 213, 3), (481, .aload_n 0, 1), (482, .getfield 71, 3), (485, .iload 6, 2), (487, .iload 7, 2), (489, .ldc 251, 2), (491, .if_icmp .ge 8, 3), (494, .iload 7, 2), (496, .goto 5, 3), (499, .ldc 251, 2), (501, .iastore, 1), (502, .aload_n 0, 1), (503, .getfield 74, 3), (506, .iload 6, 2), (508, .aload_n 0, 1), (509, .getfield 74, 3), (512, .iload_n 1, 1), (513, .baload, 1), (514, .ifCond .ne 14, 3), (517, .aload_n 0, 1), (518, .getfield 65, 3), (521, .iload 6, 2), (523, .iaload, 1), (524, .iconst 2, 1), (525, .if_icmp .ne 7, 3), (528, .iconst 1, 1), (529, .goto 4, 3), (532, .iconst 0, 1), (533, .bastore, 1), (534, .iload 6, 2), (536, .ireturn, 1)]
set_option maxRecDepth 100000 in
theorem dt_quantified : q_ck k_quantified t_quantified = true := by decide +kernel
def r_quantified_501 (m : Nat) (h0 : qH) (d : Nat) (x1 x6 s1 s2 : Int) (B : qB) (Q : qO → qB → Prop) : Prop := 0 ≤ s1 ∧ s1 < 3000 ∧ 0 ≤ x1 ∧ x1 < 3000 ∧ R32 (B 25 x1) ∧ (¬ B 25 x1 = 0 → 0 ≤ x6 ∧ x6 < 3000 ∧ Q (.inl (some (iv x6))) (u2 (u2 B 24 s1 s2) 25 x6 1)) ∧ (B 25 x1 = 0 → 0 ≤ x6 ∧ x6 < 3000 ∧ R32 (B 22 x6) ∧ (¬ B 22 x6 = 2 → Q (.inl (some (iv x6))) (u2 (u2 B 24 s1 s2) 25 x6 0)) ∧ (B 22 x6 = 2 → Q (.inl (some (iv x6))) (u2 (u2 B 24 s1 s2) 25 x6 1)))
theorem r_quantified_501_ok {m : Nat} {h0 : qH} {d : Nat} {x1 x6 s1 s2 : Int} {B : qB} {Q : qO → qB → Prop} (hm : m + 100 < 1000000000) (w : r_quantified_501 m h0 d x1 x6 s1 s2 B Q) : qZ m h0 (d + 1) k_quantified 501 [some (.ref m), some (iv x1), none, none, none, none, some (iv x6), none] [iv s2, iv s1, .ref (m + 1 + 19)] B Q := by
  unfold r_quantified_501 at w
  obtain ⟨p1, p2, p3, p4, p5, w⟩ := w
  refine z_iast (j := 24) (n := 3000) hm (ck_at dt_quantified 274 rfl) rfl rfl rfl p1 p2 ?_
  refine z_ldk (ok := q_isA) (n := 0) (ck_at dt_quantified 275 rfl) rfl rfl (fun _ => rfl) rfl rfl ?_
  refine z_getR (j := 25) (a := 20) (ck_at dt_quantified 276 rfl) own_quantified (mf_at 21 rfl) (by decide) rfl rfl ?_
  refine z_ldk (ok := q_isI) (n := 6) (ck_at dt_quantified 277 rfl) rfl rfl (fun _ => rfl) rfl rfl ?_
  refine z_ldk (ok := q_isA) (n := 0) (ck_at dt_quantified 278 rfl) rfl rfl (fun _ => rfl) rfl rfl ?_
  refine z_getR (j := 25) (a := 20) (ck_at dt_quantified 279 rfl) own_quantified (mf_at 21 rfl) (by decide) rfl rfl ?_
  refine z_ldk (ok := q_isI) (n := 1) (ck_at dt_quantified 280 rfl) rfl rfl (fun _ => rfl) rfl rfl ?_
  refine z_bald (j := 25) (n := 3000) (ck_at dt_quantified 281 rfl) rfl rfl rfl p3 p4 ?_
  refine z_ifz (t := 528) (ck_at dt_quantified 282 rfl) rfl p5 ?_ ?_
  · intro q; have w := w.1 q
    obtain ⟨p6, p7, w⟩ := w
    refine z_op (ck_at dt_quantified 289 rfl) rfl (o_const _) ?_
    refine z_goto (t := 533) (ck_at dt_quantified 290 rfl) rfl ?_
    refine z_bast (j := 25) (n := 3000) hm (ck_at dt_quantified 292 rfl) rfl rfl rfl p6 p7 (by decide) ?_
    refine z_ldk (ok := q_isI) (n := 6) (ck_at dt_quantified 293 rfl) rfl rfl (fun _ => rfl) rfl rfl ?_
    exact z_retI (ck_at dt_quantified 294 rfl) rt_quantified w
  · intro q; have w := w.2 q
    obtain ⟨p8, p9, p10, w⟩ := w
    refine z_ldk (ok := q_isA) (n := 0) (ck_at dt_quantified 283 rfl) rfl rfl (fun _ => rfl) rfl rfl ?_
    refine z_getR (j := 22) (a := 17) (ck_at dt_quantified 284 rfl) own_quantified (mf_at 18 rfl) (by decide) rfl rfl ?_
    refine z_ldk (ok := q_isI) (n := 6) (ck_at dt_quantified 285 rfl) rfl rfl (fun _ => rfl) rfl rfl ?_
    refine z_iald (j := 22) (n := 3000) (ck_at dt_quantified 286 rfl) rfl rfl rfl p8 p9 ?_
    refine z_op (ck_at dt_quantified 287 rfl) rfl (o_const _) ?_
    refine z_icmp (t := 532) (ck_at dt_quantified 288 rfl) rfl p10 ⟨by decide, by decide⟩ ?_ ?_
    · intro q; have w := w.1 q
      refine z_op (ck_at dt_quantified 291 rfl) rfl (o_const _) ?_
      refine z_bast (j := 25) (n := 3000) hm (ck_at dt_quantified 292 rfl) rfl rfl rfl p8 p9 (by decide) ?_
      refine z_ldk (ok := q_isI) (n := 6) (ck_at dt_quantified 293 rfl) rfl rfl (fun _ => rfl) rfl rfl ?_
      exact z_retI (ck_at dt_quantified 294 rfl) rt_quantified w
    · intro q; have w := w.2 q
      refine z_op (ck_at dt_quantified 289 rfl) rfl (o_const _) ?_
      refine z_goto (t := 533) (ck_at dt_quantified 290 rfl) rfl ?_
      refine z_bast (j := 25) (n := 3000) hm (ck_at dt_quantified 292 rfl) rfl rfl rfl p8 p9 (by decide) ?_
      refine z_ldk (ok := q_isI) (n := 6) (ck_at dt_quantified 293 rfl) rfl rfl (fun _ => rfl) rfl rfl ?_
      exact z_retI (ck_at dt_quantified 294 rfl) rt_quantified w
def r_quantified_481 (m : Nat) (h0 : qH) (d : Nat) (x1 x6 x7 : Int) (B : qB) (Q : qO → qB → Prop) : Prop := R32 x7 ∧ (x7 ≥ 100000 → r_quantified_501 m h0 d x1 x6 x6 100000 B Q) ∧ (x7 < 100000 → r_quantified_501 m h0 d x1 x6 x6 x7 B Q)
theorem r_quantified_481_ok {m : Nat} {h0 : qH} {d : Nat} {x1 x6 x7 : Int} {B : qB} {Q : qO → qB → Prop} (hm : m + 100 < 1000000000) (w : r_quantified_481 m h0 d x1 x6 x7 B Q) : qZ m h0 (d + 1) k_quantified 481 [some (.ref m), some (iv x1), none, none, none, none, some (iv x6), some (iv x7)] [] B Q := by
  unfold r_quantified_481 at w
  obtain ⟨p1, w⟩ := w
  refine z_ldk (ok := q_isA) (n := 0) (ck_at dt_quantified 265 rfl) rfl rfl (fun _ => rfl) rfl rfl ?_
  refine z_getR (j := 24) (a := 19) (ck_at dt_quantified 266 rfl) own_quantified (mf_at 20 rfl) (by decide) rfl rfl ?_
  refine z_ldk (ok := q_isI) (n := 6) (ck_at dt_quantified 267 rfl) rfl rfl (fun _ => rfl) rfl rfl ?_
  refine z_ldk (ok := q_isI) (n := 7) (ck_at dt_quantified 268 rfl) rfl rfl (fun _ => rfl) rfl rfl ?_
  refine z_ldc (c := 100000) (ck_at dt_quantified 269 rfl) own_quantified (by decide +kernel) ?_
  refine z_icmp (t := 499) (ck_at dt_quantified 270 rfl) rfl p1 ⟨by decide, by decide⟩ ?_ ?_
  · intro q; have w := w.1 q
    refine z_ldc (c := 100000) (ck_at dt_quantified 273 rfl) own_quantified (by decide +kernel) ?_
    exact z_wk (r_quantified_501_ok hm w) ⟨rfl, ⟨rfl, ⟨rfl, trivial⟩⟩⟩
  · intro q; have w := w.2 q
    refine z_ldk (ok := q_isI) (n := 7) (ck_at dt_quantified 271 rfl) rfl rfl (fun _ => rfl) rfl rfl ?_
    refine z_goto (t := 501) (ck_at dt_quantified 272 rfl) rfl ?_
    exact z_wk (r_quantified_501_ok hm w) ⟨rfl, ⟨rfl, ⟨rfl, trivial⟩⟩⟩
def r_quantified_459 (m : Nat) (h0 : qH) (d : Nat) (s0 : Int) (B : qB) (Q : qO → qB → Prop) : Prop := Q (.inl (some (iv s0))) B
theorem r_quantified_459_ok {m : Nat} {h0 : qH} {d : Nat} {s0 : Int} {B : qB} {Q : qO → qB → Prop} (hm : m + 100 < 1000000000) (w : r_quantified_459 m h0 d s0 B Q) : qZ m h0 (d + 1) k_quantified 459 [none, none, none, none, none, none, none, none] [iv s0] B Q := by
  unfold r_quantified_459 at w
  exact z_retI (ck_at dt_quantified 252 rfl) rt_quantified w
def r_quantified_451 (m : Nat) (h0 : qH) (d : Nat) (B : qB) (Q : qO → qB → Prop) : Prop := qZ m h0 d k_wrong 0 [some (.ref m), some (iv (B 33 0))] [] B (fun o B' => ∃ v : Int, o = .inl (some (iv v)) ∧ r_quantified_459 m h0 d v B' Q)
theorem r_quantified_451_ok {m : Nat} {h0 : qH} {d : Nat} {B : qB} {Q : qO → qB → Prop} (hm : m + 100 < 1000000000) (w : r_quantified_451 m h0 d B Q) : qZ m h0 (d + 1) k_quantified 451 [some (.ref m), none, none, none, none, none, none, none] [] B Q := by
  unfold r_quantified_451 at w
  refine z_ldk (ok := q_isA) (n := 0) (ck_at dt_quantified 248 rfl) rfl rfl (fun _ => rfl) rfl rfl ?_
  refine z_ldk (ok := q_isA) (n := 0) (ck_at dt_quantified 249 rfl) rfl rfl (fun _ => rfl) rfl rfl ?_
  refine z_getI (j := 33) (ck_at dt_quantified 250 rfl) own_quantified (mf_at 57 rfl) (by decide) rfl ?_
  refine z_virt (k' := k_wrong) (n := 0) (as := [iv (B 33 0)]) (r := []) (ck_at dt_quantified 251 rfl) own_quantified (mm_at 14 rfl) vk_wrong rfl nl_wrong rfl rfl rfl rfl ?_
  exact w.mono (Nat.le_refl _) (fun o B' ⟨v, ho, w⟩ => ⟨some (iv v), ho, z_wk (r_quantified_459_ok hm w) trivial⟩)
def r_quantified_430 (m : Nat) (h0 : qH) (d : Nat) (x1 x6 x7 s0 : Int) (B : qB) (Q : qO → qB → Prop) : Prop := R32 s0 ∧ (¬ s0 = 43 → r_quantified_481 m h0 d x1 x6 x7 B Q) ∧ (s0 = 43 → R32 (B 26 0) ∧ (B 26 0 > 0 → r_quantified_451 m h0 d B Q) ∧ (B 26 0 ≤ 0 → 0 ≤ x1 ∧ x1 < 3000 ∧ R32 (B 25 x1) ∧ (B 25 x1 = 0 → 0 ≤ x6 ∧ x6 < 3000 ∧ r_quantified_481 m h0 d x1 x6 (x7 + 1) (u2 (u2 B 22 x6 2) 33 0 ((B 33 0) + 1)) Q) ∧ (¬ B 25 x1 = 0 → r_quantified_451 m h0 d B Q)))
theorem r_quantified_430_ok {m : Nat} {h0 : qH} {d : Nat} {x1 x6 x7 s0 : Int} {B : qB} {Q : qO → qB → Prop} (hm : m + 100 < 1000000000) (w : r_quantified_430 m h0 d x1 x6 x7 s0 B Q) : qZ m h0 (d + 1) k_quantified 430 [some (.ref m), some (iv x1), none, none, none, none, some (iv x6), some (iv x7)] [iv s0] B Q := by
  unfold r_quantified_430 at w
  obtain ⟨p1, w⟩ := w
  refine z_op (ck_at dt_quantified 238 rfl) rfl (o_bipush _ (by decide)) ?_
  refine z_icmp (t := 481) (ck_at dt_quantified 239 rfl) rfl p1 ⟨by decide, by decide⟩ ?_ ?_
  · intro q; have w := w.1 q
    exact z_wk (r_quantified_481_ok hm w) ⟨rfl, ⟨rfl, ⟨rfl, ⟨rfl, trivial⟩⟩⟩⟩
  · intro q; have w := w.2 q
    obtain ⟨p2, w⟩ := w
    refine z_ldk (ok := q_isA) (n := 0) (ck_at dt_quantified 240 rfl) rfl rfl (fun _ => rfl) rfl rfl ?_
    refine z_getI (j := 26) (ck_at dt_quantified 241 rfl) own_quantified (mf_at 56 rfl) (by decide) rfl ?_
    refine z_ifz (t := 451) (ck_at dt_quantified 242 rfl) rfl p2 ?_ ?_
    · intro q; have w := w.1 q
      exact z_wk (r_quantified_451_ok hm w) ⟨rfl, trivial⟩
    · intro q; have w := w.2 q
      obtain ⟨p3, p4, p5, w⟩ := w
      refine z_ldk (ok := q_isA) (n := 0) (ck_at dt_quantified 243 rfl) rfl rfl (fun _ => rfl) rfl rfl ?_
      refine z_getR (j := 25) (a := 20) (ck_at dt_quantified 244 rfl) own_quantified (mf_at 21 rfl) (by decide) rfl rfl ?_
      refine z_ldk (ok := q_isI) (n := 1) (ck_at dt_quantified 245 rfl) rfl rfl (fun _ => rfl) rfl rfl ?_
      refine z_bald (j := 25) (n := 3000) (ck_at dt_quantified 246 rfl) rfl rfl rfl p3 p4 ?_
      refine z_ifz (t := 460) (ck_at dt_quantified 247 rfl) rfl p5 ?_ ?_
      · intro q; have w := w.1 q
        obtain ⟨p6, p7, w⟩ := w
        refine z_ldk (ok := q_isA) (n := 0) (ck_at dt_quantified 253 rfl) rfl rfl (fun _ => rfl) rfl rfl ?_
        refine z_getR (j := 22) (a := 17) (ck_at dt_quantified 254 rfl) own_quantified (mf_at 18 rfl) (by decide) rfl rfl ?_
        refine z_ldk (ok := q_isI) (n := 6) (ck_at dt_quantified 255 rfl) rfl rfl (fun _ => rfl) rfl rfl ?_
        refine z_op (ck_at dt_quantified 256 rfl) rfl (o_const _) ?_
        refine z_iast (j := 22) (n := 3000) hm (ck_at dt_quantified 257 rfl) rfl rfl rfl p6 p7 ?_
        refine z_iinc (n := 7) (L' := [some (.ref m), some (iv x1), none, none, none, none, some (iv x6), some (iv (x7 + 1))]) (ck_at dt_quantified 258 rfl) rfl nl_quantified (by decide) rfl rfl ?_
        refine z_ldk (ok := q_isA) (n := 0) (ck_at dt_quantified 259 rfl) rfl rfl (fun _ => rfl) rfl rfl ?_
        refine z_op (ck_at dt_quantified 260 rfl) rfl rfl ?_
        refine z_getI (j := 33) (ck_at dt_quantified 261 rfl) own_quantified (mf_at 57 rfl) (by decide) rfl ?_
        refine z_op (ck_at dt_quantified 262 rfl) rfl (o_const _) ?_
        refine z_op (ck_at dt_quantified 263 rfl) rfl o_iadd ?_
        refine z_putI (j := 33) hm (ck_at dt_quantified 264 rfl) own_quantified (mf_at 57 rfl) (by decide) rfl rfl rfl ?_
        exact z_wk (r_quantified_481_ok hm w) ⟨rfl, ⟨rfl, ⟨rfl, ⟨rfl, trivial⟩⟩⟩⟩
      · intro q; have w := w.2 q
        exact z_wk (r_quantified_451_ok hm w) ⟨rfl, trivial⟩
def r_quantified_396 (m : Nat) (h0 : qH) (d : Nat) (x1 x6 x7 s0 : Int) (B : qB) (Q : qO → qB → Prop) : Prop := R32 s0 ∧ (¬ s0 = 63 → qZ m h0 d k_signAt 0 [some (.ref m), some (iv (B 33 0))] [] B (fun o B' => ∃ v : Int, o = .inl (some (iv v)) ∧ r_quantified_430 m h0 d x1 x6 x7 v B' Q)) ∧ (s0 = 63 → 0 ≤ x6 ∧ x6 < 3000 ∧ r_quantified_481 m h0 d x1 x6 x7 (u2 (u2 B 22 x6 1) 33 0 ((B 33 0) + 1)) Q)
theorem r_quantified_396_ok {m : Nat} {h0 : qH} {d : Nat} {x1 x6 x7 s0 : Int} {B : qB} {Q : qO → qB → Prop} (hm : m + 100 < 1000000000) (w : r_quantified_396 m h0 d x1 x6 x7 s0 B Q) : qZ m h0 (d + 1) k_quantified 396 [some (.ref m), some (iv x1), none, none, none, none, some (iv x6), some (iv x7)] [iv s0] B Q := by
  unfold r_quantified_396 at w
  obtain ⟨p1, w⟩ := w
  refine z_op (ck_at dt_quantified 220 rfl) rfl (o_bipush _ (by decide)) ?_
  refine z_icmp (t := 422) (ck_at dt_quantified 221 rfl) rfl p1 ⟨by decide, by decide⟩ ?_ ?_
  · intro q; have w := w.1 q
    refine z_ldk (ok := q_isA) (n := 0) (ck_at dt_quantified 234 rfl) rfl rfl (fun _ => rfl) rfl rfl ?_
    refine z_ldk (ok := q_isA) (n := 0) (ck_at dt_quantified 235 rfl) rfl rfl (fun _ => rfl) rfl rfl ?_
    refine z_getI (j := 33) (ck_at dt_quantified 236 rfl) own_quantified (mf_at 57 rfl) (by decide) rfl ?_
    refine z_virt (k' := k_signAt) (n := 0) (as := [iv (B 33 0)]) (r := []) (ck_at dt_quantified 237 rfl) own_quantified (mm_at 6 rfl) vk_signAt rfl nl_signAt rfl rfl rfl rfl ?_
    exact w.mono (Nat.le_refl _) (fun o B' ⟨v, ho, w⟩ => ⟨some (iv v), ho, z_wk (r_quantified_430_ok hm w) ⟨rfl, ⟨rfl, ⟨rfl, ⟨rfl, trivial⟩⟩⟩⟩⟩)
  · intro q; have w := w.2 q
    obtain ⟨p2, p3, w⟩ := w
    refine z_ldk (ok := q_isA) (n := 0) (ck_at dt_quantified 222 rfl) rfl rfl (fun _ => rfl) rfl rfl ?_
    refine z_getR (j := 22) (a := 17) (ck_at dt_quantified 223 rfl) own_quantified (mf_at 18 rfl) (by decide) rfl rfl ?_
    refine z_ldk (ok := q_isI) (n := 6) (ck_at dt_quantified 224 rfl) rfl rfl (fun _ => rfl) rfl rfl ?_
    refine z_op (ck_at dt_quantified 225 rfl) rfl (o_const _) ?_
    refine z_iast (j := 22) (n := 3000) hm (ck_at dt_quantified 226 rfl) rfl rfl rfl p2 p3 ?_
    refine z_ldk (ok := q_isA) (n := 0) (ck_at dt_quantified 227 rfl) rfl rfl (fun _ => rfl) rfl rfl ?_
    refine z_op (ck_at dt_quantified 228 rfl) rfl rfl ?_
    refine z_getI (j := 33) (ck_at dt_quantified 229 rfl) own_quantified (mf_at 57 rfl) (by decide) rfl ?_
    refine z_op (ck_at dt_quantified 230 rfl) rfl (o_const _) ?_
    refine z_op (ck_at dt_quantified 231 rfl) rfl o_iadd ?_
    refine z_putI (j := 33) hm (ck_at dt_quantified 232 rfl) own_quantified (mf_at 57 rfl) (by decide) rfl rfl rfl ?_
    refine z_goto (t := 481) (ck_at dt_quantified 233 rfl) rfl ?_
    exact z_wk (r_quantified_481_ok hm w) ⟨rfl, ⟨rfl, ⟨rfl, ⟨rfl, trivial⟩⟩⟩⟩
def r_quantified_388 (m : Nat) (h0 : qH) (d : Nat) (x1 x6 x7 : Int) (B : qB) (Q : qO → qB → Prop) : Prop := qZ m h0 d k_signAt 0 [some (.ref m), some (iv (B 33 0))] [] B (fun o B' => ∃ v : Int, o = .inl (some (iv v)) ∧ r_quantified_396 m h0 d x1 x6 x7 v B' Q)
theorem r_quantified_388_ok {m : Nat} {h0 : qH} {d : Nat} {x1 x6 x7 : Int} {B : qB} {Q : qO → qB → Prop} (hm : m + 100 < 1000000000) (w : r_quantified_388 m h0 d x1 x6 x7 B Q) : qZ m h0 (d + 1) k_quantified 388 [some (.ref m), some (iv x1), none, none, none, none, some (iv x6), some (iv x7)] [] B Q := by
  unfold r_quantified_388 at w
  refine z_ldk (ok := q_isA) (n := 0) (ck_at dt_quantified 216 rfl) rfl rfl (fun _ => rfl) rfl rfl ?_
  refine z_ldk (ok := q_isA) (n := 0) (ck_at dt_quantified 217 rfl) rfl rfl (fun _ => rfl) rfl rfl ?_
  refine z_getI (j := 33) (ck_at dt_quantified 218 rfl) own_quantified (mf_at 57 rfl) (by decide) rfl ?_
  refine z_virt (k' := k_signAt) (n := 0) (as := [iv (B 33 0)]) (r := []) (ck_at dt_quantified 219 rfl) own_quantified (mm_at 6 rfl) vk_signAt rfl nl_signAt rfl rfl rfl rfl ?_
  exact w.mono (Nat.le_refl _) (fun o B' ⟨v, ho, w⟩ => ⟨some (iv v), ho, z_wk (r_quantified_396_ok hm w) ⟨rfl, ⟨rfl, ⟨rfl, ⟨rfl, trivial⟩⟩⟩⟩⟩)
def r_quantified_385 (m : Nat) (h0 : qH) (d : Nat) (x1 x6 s0 s1 : Int) (B : qB) (Q : qO → qB → Prop) : Prop := r_quantified_388 m h0 d x1 x6 (s0 + s1) B Q
theorem r_quantified_385_ok {m : Nat} {h0 : qH} {d : Nat} {x1 x6 s0 s1 : Int} {B : qB} {Q : qO → qB → Prop} (hm : m + 100 < 1000000000) (w : r_quantified_385 m h0 d x1 x6 s0 s1 B Q) : qZ m h0 (d + 1) k_quantified 385 [some (.ref m), some (iv x1), none, none, none, none, some (iv x6), none] [iv s1, iv s0] B Q := by
  unfold r_quantified_385 at w
  refine z_op (ck_at dt_quantified 214 rfl) rfl o_iadd ?_
  refine z_st1 (ok := q_isI) (n := 7) (L' := [some (.ref m), some (iv x1), none, none, none, none, some (iv x6), some (iv (s0 + s1))]) (ck_at dt_quantified 215 rfl) rfl (fun _ => rfl) (fun _ _ => rfl) rfl nl_quantified (by decide) rfl rfl ?_
  exact z_wk (r_quantified_388_ok hm w) ⟨rfl, ⟨rfl, ⟨rfl, ⟨rfl, trivial⟩⟩⟩⟩
def r_quantified_340 (m : Nat) (h0 : qH) (d : Nat) (x1 x3 x4 x5 x6 x7 : Int) (B : qB) (Q : qO → qB → Prop) : Prop := R32 x3 ∧ (¬ x3 = 123 → r_quantified_388 m h0 d x1 x6 x7 B Q) ∧ (x3 = 123 → 0 ≤ x1 ∧ x1 < 3000 ∧ R32 x5 ∧ (x5 ≥ 0 → r_quantified_385 m h0 d x1 x6 (x4 * (B 24 x1)) ((x5 - x4) * ((B 24 x1) + 1)) B Q) ∧ (x5 < 0 → r_quantified_385 m h0 d x1 x6 (x4 * (B 24 x1)) ((B 24 x1) + 1) B Q))
theorem r_quantified_340_ok {m : Nat} {h0 : qH} {d : Nat} {x1 x3 x4 x5 x6 x7 : Int} {B : qB} {Q : qO → qB → Prop} (hm : m + 100 < 1000000000) (w : r_quantified_340 m h0 d x1 x3 x4 x5 x6 x7 B Q) : qZ m h0 (d + 1) k_quantified 340 [some (.ref m), some (iv x1), none, some (iv x3), some (iv x4), some (iv x5), some (iv x6), some (iv x7)] [] B Q := by
  unfold r_quantified_340 at w
  obtain ⟨p1, w⟩ := w
  refine z_ldk (ok := q_isI) (n := 3) (ck_at dt_quantified 186 rfl) rfl rfl (fun _ => rfl) rfl rfl ?_
  refine z_op (ck_at dt_quantified 187 rfl) rfl (o_bipush _ (by decide)) ?_
  refine z_icmp (t := 388) (ck_at dt_quantified 188 rfl) rfl p1 ⟨by decide, by decide⟩ ?_ ?_
  · intro q; have w := w.1 q
    exact z_wk (r_quantified_388_ok hm w) ⟨rfl, ⟨rfl, ⟨rfl, ⟨rfl, trivial⟩⟩⟩⟩
  · intro q; have w := w.2 q
    obtain ⟨p2, p3, p4, w⟩ := w
    refine z_ldk (ok := q_isI) (n := 4) (ck_at dt_quantified 189 rfl) rfl rfl (fun _ => rfl) rfl rfl ?_
    refine z_ldk (ok := q_isA) (n := 0) (ck_at dt_quantified 190 rfl) rfl rfl (fun _ => rfl) rfl rfl ?_
    refine z_getR (j := 24) (a := 19) (ck_at dt_quantified 191 rfl) own_quantified (mf_at 20 rfl) (by decide) rfl rfl ?_
    refine z_ldk (ok := q_isI) (n := 1) (ck_at dt_quantified 192 rfl) rfl rfl (fun _ => rfl) rfl rfl ?_
    refine z_iald (j := 24) (n := 3000) (ck_at dt_quantified 193 rfl) rfl rfl rfl p2 p3 ?_
    refine z_op (ck_at dt_quantified 194 rfl) rfl o_imul ?_
    refine z_ldk (ok := q_isI) (n := 5) (ck_at dt_quantified 195 rfl) rfl rfl (fun _ => rfl) rfl rfl ?_
    refine z_ifz (t := 371) (ck_at dt_quantified 196 rfl) rfl p4 ?_ ?_
    · intro q; have w := w.1 q
      refine z_ldk (ok := q_isI) (n := 5) (ck_at dt_quantified 204 rfl) rfl rfl (fun _ => rfl) rfl rfl ?_
      refine z_ldk (ok := q_isI) (n := 4) (ck_at dt_quantified 205 rfl) rfl rfl (fun _ => rfl) rfl rfl ?_
      refine z_op (ck_at dt_quantified 206 rfl) rfl o_isub ?_
      refine z_ldk (ok := q_isA) (n := 0) (ck_at dt_quantified 207 rfl) rfl rfl (fun _ => rfl) rfl rfl ?_
      refine z_getR (j := 24) (a := 19) (ck_at dt_quantified 208 rfl) own_quantified (mf_at 20 rfl) (by decide) rfl rfl ?_
      refine z_ldk (ok := q_isI) (n := 1) (ck_at dt_quantified 209 rfl) rfl rfl (fun _ => rfl) rfl rfl ?_
      refine z_iald (j := 24) (n := 3000) (ck_at dt_quantified 210 rfl) rfl rfl rfl p2 p3 ?_
      refine z_op (ck_at dt_quantified 211 rfl) rfl (o_const _) ?_
      refine z_op (ck_at dt_quantified 212 rfl) rfl o_iadd ?_
      refine z_op (ck_at dt_quantified 213 rfl) rfl o_imul ?_
      exact z_wk (r_quantified_385_ok hm w) ⟨rfl, ⟨rfl, ⟨rfl, trivial⟩⟩⟩
    · intro q; have w := w.2 q
      refine z_ldk (ok := q_isA) (n := 0) (ck_at dt_quantified 197 rfl) rfl rfl (fun _ => rfl) rfl rfl ?_
      refine z_getR (j := 24) (a := 19) (ck_at dt_quantified 198 rfl) own_quantified (mf_at 20 rfl) (by decide) rfl rfl ?_
      refine z_ldk (ok := q_isI) (n := 1) (ck_at dt_quantified 199 rfl) rfl rfl (fun _ => rfl) rfl rfl ?_
      refine z_iald (j := 24) (n := 3000) (ck_at dt_quantified 200 rfl) rfl rfl rfl p2 p3 ?_
      refine z_op (ck_at dt_quantified 201 rfl) rfl (o_const _) ?_
      refine z_op (ck_at dt_quantified 202 rfl) rfl o_iadd ?_
      refine z_goto (t := 385) (ck_at dt_quantified 203 rfl) rfl ?_
      exact z_wk (r_quantified_385_ok hm w) ⟨rfl, ⟨rfl, ⟨rfl, trivial⟩⟩⟩
def r_quantified_292 (m : Nat) (h0 : qH) (d : Nat) (x1 x3 x4 x5 s0 : Int) (B : qB) (Q : qO → qB → Prop) : Prop := 0 ≤ s0 ∧ s0 < 3000 ∧ 0 ≤ x1 ∧ x1 < 3000 ∧ R32 x3 ∧ (¬ x3 = 43 → r_quantified_340 m h0 d x1 x3 x4 x5 s0 ((B 24 x1) + 1) (u2 (u2 B 20 s0 x4) 21 s0 x5) Q) ∧ (x3 = 43 → r_quantified_340 m h0 d x1 x3 x4 x5 s0 ((2 * (B 24 x1)) + 1) (u2 (u2 B 20 s0 x4) 21 s0 x5) Q)
theorem r_quantified_292_ok {m : Nat} {h0 : qH} {d : Nat} {x1 x3 x4 x5 s0 : Int} {B : qB} {Q : qO → qB → Prop} (hm : m + 100 < 1000000000) (w : r_quantified_292 m h0 d x1 x3 x4 x5 s0 B Q) : qZ m h0 (d + 1) k_quantified 292 [some (.ref m), some (iv x1), none, some (iv x3), some (iv x4), some (iv x5), none, none] [iv s0] B Q := by
  unfold r_quantified_292 at w
  obtain ⟨p1, p2, p3, p4, p5, w⟩ := w
  refine z_st1 (ok := q_isI) (n := 6) (L' := [some (.ref m), some (iv x1), none, some (iv x3), some (iv x4), some (iv x5), some (iv s0), none]) (ck_at dt_quantified 156 rfl) rfl (fun _ => rfl) (fun _ _ => rfl) rfl nl_quantified (by decide) rfl rfl ?_
  refine z_ldk (ok := q_isA) (n := 0) (ck_at dt_quantified 157 rfl) rfl rfl (fun _ => rfl) rfl rfl ?_
  refine z_getR (j := 20) (a := 15) (ck_at dt_quantified 158 rfl) own_quantified (mf_at 16 rfl) (by decide) rfl rfl ?_
  refine z_ldk (ok := q_isI) (n := 6) (ck_at dt_quantified 159 rfl) rfl rfl (fun _ => rfl) rfl rfl ?_
  refine z_ldk (ok := q_isI) (n := 4) (ck_at dt_quantified 160 rfl) rfl rfl (fun _ => rfl) rfl rfl ?_
  refine z_iast (j := 20) (n := 3000) hm (ck_at dt_quantified 161 rfl) rfl rfl rfl p1 p2 ?_
  refine z_ldk (ok := q_isA) (n := 0) (ck_at dt_quantified 162 rfl) rfl rfl (fun _ => rfl) rfl rfl ?_
  refine z_getR (j := 21) (a := 16) (ck_at dt_quantified 163 rfl) own_quantified (mf_at 17 rfl) (by decide) rfl rfl ?_
  refine z_ldk (ok := q_isI) (n := 6) (ck_at dt_quantified 164 rfl) rfl rfl (fun _ => rfl) rfl rfl ?_
  refine z_ldk (ok := q_isI) (n := 5) (ck_at dt_quantified 165 rfl) rfl rfl (fun _ => rfl) rfl rfl ?_
  refine z_iast (j := 21) (n := 3000) hm (ck_at dt_quantified 166 rfl) rfl rfl rfl p1 p2 ?_
  refine z_ldk (ok := q_isA) (n := 0) (ck_at dt_quantified 167 rfl) rfl rfl (fun _ => rfl) rfl rfl ?_
  refine z_getR (j := 24) (a := 19) (ck_at dt_quantified 168 rfl) own_quantified (mf_at 20 rfl) (by decide) rfl rfl ?_
  refine z_ldk (ok := q_isI) (n := 1) (ck_at dt_quantified 169 rfl) rfl rfl (fun _ => rfl) rfl rfl ?_
  refine z_iald (j := 24) (n := 3000) (ck_at dt_quantified 170 rfl) rfl rfl rfl p3 p4 ?_
  refine z_op (ck_at dt_quantified 171 rfl) rfl (o_const _) ?_
  refine z_op (ck_at dt_quantified 172 rfl) rfl o_iadd ?_
  refine z_st1 (ok := q_isI) (n := 7) (L' := [some (.ref m), some (iv x1), none, some (iv x3), some (iv x4), some (iv x5), some (iv s0), some (iv ((B 24 x1) + 1))]) (ck_at dt_quantified 173 rfl) rfl (fun _ => rfl) (fun _ _ => rfl) rfl nl_quantified (by decide) rfl rfl ?_
  refine z_ldk (ok := q_isI) (n := 3) (ck_at dt_quantified 174 rfl) rfl rfl (fun _ => rfl) rfl rfl ?_
  refine z_op (ck_at dt_quantified 175 rfl) rfl (o_bipush _ (by decide)) ?_
  refine z_icmp (t := 340) (ck_at dt_quantified 176 rfl) rfl p5 ⟨by decide, by decide⟩ ?_ ?_
  · intro q; have w := w.1 q
    exact z_wk (r_quantified_340_ok hm w) ⟨rfl, ⟨rfl, ⟨rfl, ⟨rfl, ⟨rfl, ⟨rfl, ⟨rfl, trivial⟩⟩⟩⟩⟩⟩⟩
  · intro q; have w := w.2 q
    refine z_op (ck_at dt_quantified 177 rfl) rfl (o_const _) ?_
    refine z_ldk (ok := q_isA) (n := 0) (ck_at dt_quantified 178 rfl) rfl rfl (fun _ => rfl) rfl rfl ?_
    refine z_getR (j := 24) (a := 19) (ck_at dt_quantified 179 rfl) own_quantified (mf_at 20 rfl) (by decide) rfl rfl ?_
    refine z_ldk (ok := q_isI) (n := 1) (ck_at dt_quantified 180 rfl) rfl rfl (fun _ => rfl) rfl rfl ?_
    refine z_iald (j := 24) (n := 3000) (ck_at dt_quantified 181 rfl) rfl rfl rfl p3 p4 ?_
    refine z_op (ck_at dt_quantified 182 rfl) rfl o_imul ?_
    refine z_op (ck_at dt_quantified 183 rfl) rfl (o_const _) ?_
    refine z_op (ck_at dt_quantified 184 rfl) rfl o_iadd ?_
    refine z_st1 (ok := q_isI) (n := 7) (L' := [some (.ref m), some (iv x1), none, some (iv x3), some (iv x4), some (iv x5), some (iv s0), some (iv ((2 * (B 24 x1)) + 1))]) (ck_at dt_quantified 185 rfl) rfl (fun _ => rfl) (fun _ _ => rfl) rfl nl_quantified (by decide) rfl rfl ?_
    exact z_wk (r_quantified_340_ok hm w) ⟨rfl, ⟨rfl, ⟨rfl, ⟨rfl, ⟨rfl, ⟨rfl, ⟨rfl, trivial⟩⟩⟩⟩⟩⟩⟩
def r_quantified_285 (m : Nat) (h0 : qH) (d : Nat) (x1 x3 x4 x5 : Int) (B : qB) (Q : qO → qB → Prop) : Prop := qZ m h0 d k_newNode 0 [some (.ref m), some (iv 3), some (iv x1), some (iv 0)] [] B (fun o B' => ∃ v : Int, o = .inl (some (iv v)) ∧ r_quantified_292 m h0 d x1 x3 x4 x5 v B' Q)
theorem r_quantified_285_ok {m : Nat} {h0 : qH} {d : Nat} {x1 x3 x4 x5 : Int} {B : qB} {Q : qO → qB → Prop} (hm : m + 100 < 1000000000) (w : r_quantified_285 m h0 d x1 x3 x4 x5 B Q) : qZ m h0 (d + 1) k_quantified 285 [some (.ref m), some (iv x1), none, some (iv x3), some (iv x4), some (iv x5), none, none] [] B Q := by
  unfold r_quantified_285 at w
  refine z_ldk (ok := q_isA) (n := 0) (ck_at dt_quantified 151 rfl) rfl rfl (fun _ => rfl) rfl rfl ?_
  refine z_op (ck_at dt_quantified 152 rfl) rfl (o_const _) ?_
  refine z_ldk (ok := q_isI) (n := 1) (ck_at dt_quantified 153 rfl) rfl rfl (fun _ => rfl) rfl rfl ?_
  refine z_op (ck_at dt_quantified 154 rfl) rfl (o_const _) ?_
  refine z_virt (k' := k_newNode) (n := 0) (as := [iv 3, iv x1, iv 0]) (r := []) (ck_at dt_quantified 155 rfl) own_quantified (mm_at 8 rfl) vk_newNode rfl nl_newNode rfl rfl rfl rfl ?_
  exact w.mono (Nat.le_refl _) (fun o B' ⟨v, ho, w⟩ => ⟨some (iv v), ho, z_wk (r_quantified_292_ok hm w) ⟨rfl, ⟨rfl, ⟨rfl, ⟨rfl, ⟨rfl, trivial⟩⟩⟩⟩⟩⟩)
def r_quantified_266 (m : Nat) (h0 : qH) (d : Nat) (x1 x3 x4 x5 : Int) (B : qB) (Q : qO → qB → Prop) : Prop := R32 (B 35 0) ∧ (B 35 0 < 0 → r_quantified_285 m h0 d x1 x3 x4 x5 (u2 B 33 0 ((B 33 0) + 1)) Q) ∧ (B 35 0 ≥ 0 → Q (.inl (some (iv x1))) B)
theorem r_quantified_266_ok {m : Nat} {h0 : qH} {d : Nat} {x1 x3 x4 x5 : Int} {B : qB} {Q : qO → qB → Prop} (hm : m + 100 < 1000000000) (w : r_quantified_266 m h0 d x1 x3 x4 x5 B Q) : qZ m h0 (d + 1) k_quantified 266 [some (.ref m), some (iv x1), none, some (iv x3), some (iv x4), some (iv x5), none, none] [] B Q := by
  unfold r_quantified_266 at w
  obtain ⟨p1, w⟩ := w
  refine z_ldk (ok := q_isA) (n := 0) (ck_at dt_quantified 140 rfl) rfl rfl (fun _ => rfl) rfl rfl ?_
  refine z_getI (j := 35) (ck_at dt_quantified 141 rfl) own_quantified (mf_at 51 rfl) (by decide) rfl ?_
  refine z_ifz (t := 275) (ck_at dt_quantified 142 rfl) rfl p1 ?_ ?_
  · intro q; have w := w.1 q
    refine z_ldk (ok := q_isA) (n := 0) (ck_at dt_quantified 145 rfl) rfl rfl (fun _ => rfl) rfl rfl ?_
    refine z_op (ck_at dt_quantified 146 rfl) rfl rfl ?_
    refine z_getI (j := 33) (ck_at dt_quantified 147 rfl) own_quantified (mf_at 57 rfl) (by decide) rfl ?_
    refine z_op (ck_at dt_quantified 148 rfl) rfl (o_const _) ?_
    refine z_op (ck_at dt_quantified 149 rfl) rfl o_iadd ?_
    refine z_putI (j := 33) hm (ck_at dt_quantified 150 rfl) own_quantified (mf_at 57 rfl) (by decide) rfl rfl rfl ?_
    exact z_wk (r_quantified_285_ok hm w) ⟨rfl, ⟨rfl, ⟨rfl, ⟨rfl, ⟨rfl, trivial⟩⟩⟩⟩⟩
  · intro q; have w := w.2 q
    refine z_ldk (ok := q_isI) (n := 1) (ck_at dt_quantified 143 rfl) rfl rfl (fun _ => rfl) rfl rfl ?_
    exact z_retI (ck_at dt_quantified 144 rfl) rt_quantified w
def r_quantified_265 (m : Nat) (h0 : qH) (d : Nat) (x1 x3 x4 x5 s0 : Int) (B : qB) (Q : qO → qB → Prop) : Prop := r_quantified_266 m h0 d x1 x3 x4 x5 B Q
theorem r_quantified_265_ok {m : Nat} {h0 : qH} {d : Nat} {x1 x3 x4 x5 s0 : Int} {B : qB} {Q : qO → qB → Prop} (hm : m + 100 < 1000000000) (w : r_quantified_265 m h0 d x1 x3 x4 x5 s0 B Q) : qZ m h0 (d + 1) k_quantified 265 [some (.ref m), some (iv x1), none, some (iv x3), some (iv x4), some (iv x5), none, none] [iv s0] B Q := by
  unfold r_quantified_265 at w
  refine z_op (ck_at dt_quantified 139 rfl) rfl rfl ?_
  exact z_wk (r_quantified_266_ok hm w) ⟨rfl, ⟨rfl, ⟨rfl, ⟨rfl, ⟨rfl, trivial⟩⟩⟩⟩⟩
def r_quantified_252 (m : Nat) (h0 : qH) (d : Nat) (x1 x3 x4 x5 s0 : Int) (B : qB) (Q : qO → qB → Prop) : Prop := R32 s0 ∧ (s0 = 125 → r_quantified_266 m h0 d x1 x3 x4 x5 B Q) ∧ (¬ s0 = 125 → qZ m h0 d k_wrong 0 [some (.ref m), some (iv (B 33 0))] [] B (fun o B' => ∃ v : Int, o = .inl (some (iv v)) ∧ r_quantified_265 m h0 d x1 x3 x4 x5 v B' Q))
theorem r_quantified_252_ok {m : Nat} {h0 : qH} {d : Nat} {x1 x3 x4 x5 s0 : Int} {B : qB} {Q : qO → qB → Prop} (hm : m + 100 < 1000000000) (w : r_quantified_252 m h0 d x1 x3 x4 x5 s0 B Q) : qZ m h0 (d + 1) k_quantified 252 [some (.ref m), some (iv x1), none, some (iv x3), some (iv x4), some (iv x5), none, none] [iv s0] B Q := by
  unfold r_quantified_252 at w
  obtain ⟨p1, w⟩ := w
  refine z_op (ck_at dt_quantified 133 rfl) rfl (o_bipush _ (by decide)) ?_
  refine z_icmp (t := 266) (ck_at dt_quantified 134 rfl) rfl p1 ⟨by decide, by decide⟩ ?_ ?_
  · intro q; have w := w.1 q
    exact z_wk (r_quantified_266_ok hm w) ⟨rfl, ⟨rfl, ⟨rfl, ⟨rfl, ⟨rfl, trivial⟩⟩⟩⟩⟩
  · intro q; have w := w.2 q
    refine z_ldk (ok := q_isA) (n := 0) (ck_at dt_quantified 135 rfl) rfl rfl (fun _ => rfl) rfl rfl ?_
    refine z_ldk (ok := q_isA) (n := 0) (ck_at dt_quantified 136 rfl) rfl rfl (fun _ => rfl) rfl rfl ?_
    refine z_getI (j := 33) (ck_at dt_quantified 137 rfl) own_quantified (mf_at 57 rfl) (by decide) rfl ?_
    refine z_virt (k' := k_wrong) (n := 0) (as := [iv (B 33 0)]) (r := []) (ck_at dt_quantified 138 rfl) own_quantified (mm_at 14 rfl) vk_wrong rfl nl_wrong rfl rfl rfl rfl ?_
    exact w.mono (Nat.le_refl _) (fun o B' ⟨v, ho, w⟩ => ⟨some (iv v), ho, z_wk (r_quantified_265_ok hm w) ⟨rfl, ⟨rfl, ⟨rfl, ⟨rfl, ⟨rfl, trivial⟩⟩⟩⟩⟩⟩)
def r_quantified_237 (m : Nat) (h0 : qH) (d : Nat) (x1 x3 x4 x5 : Int) (B : qB) (Q : qO → qB → Prop) : Prop := R32 (B 35 0) ∧ (B 35 0 ≥ 0 → r_quantified_266 m h0 d x1 x3 x4 x5 B Q) ∧ (B 35 0 < 0 → qZ m h0 d k_signAt 0 [some (.ref m), some (iv (B 33 0))] [] B (fun o B' => ∃ v : Int, o = .inl (some (iv v)) ∧ r_quantified_252 m h0 d x1 x3 x4 x5 v B' Q))
theorem r_quantified_237_ok {m : Nat} {h0 : qH} {d : Nat} {x1 x3 x4 x5 : Int} {B : qB} {Q : qO → qB → Prop} (hm : m + 100 < 1000000000) (w : r_quantified_237 m h0 d x1 x3 x4 x5 B Q) : qZ m h0 (d + 1) k_quantified 237 [some (.ref m), some (iv x1), none, some (iv x3), some (iv x4), some (iv x5), none, none] [] B Q := by
  unfold r_quantified_237 at w
  obtain ⟨p1, w⟩ := w
  refine z_ldk (ok := q_isA) (n := 0) (ck_at dt_quantified 126 rfl) rfl rfl (fun _ => rfl) rfl rfl ?_
  refine z_getI (j := 35) (ck_at dt_quantified 127 rfl) own_quantified (mf_at 51 rfl) (by decide) rfl ?_
  refine z_ifz (t := 266) (ck_at dt_quantified 128 rfl) rfl p1 ?_ ?_
  · intro q; have w := w.1 q
    exact z_wk (r_quantified_266_ok hm w) ⟨rfl, ⟨rfl, ⟨rfl, ⟨rfl, ⟨rfl, trivial⟩⟩⟩⟩⟩
  · intro q; have w := w.2 q
    refine z_ldk (ok := q_isA) (n := 0) (ck_at dt_quantified 129 rfl) rfl rfl (fun _ => rfl) rfl rfl ?_
    refine z_ldk (ok := q_isA) (n := 0) (ck_at dt_quantified 130 rfl) rfl rfl (fun _ => rfl) rfl rfl ?_
    refine z_getI (j := 33) (ck_at dt_quantified 131 rfl) own_quantified (mf_at 57 rfl) (by decide) rfl ?_
    refine z_virt (k' := k_signAt) (n := 0) (as := [iv (B 33 0)]) (r := []) (ck_at dt_quantified 132 rfl) own_quantified (mm_at 6 rfl) vk_signAt rfl nl_signAt rfl rfl rfl rfl ?_
    exact w.mono (Nat.le_refl _) (fun o B' ⟨v, ho, w⟩ => ⟨some (iv v), ho, z_wk (r_quantified_252_ok hm w) ⟨rfl, ⟨rfl, ⟨rfl, ⟨rfl, ⟨rfl, trivial⟩⟩⟩⟩⟩⟩)
def r_quantified_236 (m : Nat) (h0 : qH) (d : Nat) (x1 x3 x4 x5 s0 : Int) (B : qB) (Q : qO → qB → Prop) : Prop := r_quantified_237 m h0 d x1 x3 x4 x5 B Q
theorem r_quantified_236_ok {m : Nat} {h0 : qH} {d : Nat} {x1 x3 x4 x5 s0 : Int} {B : qB} {Q : qO → qB → Prop} (hm : m + 100 < 1000000000) (w : r_quantified_236 m h0 d x1 x3 x4 x5 s0 B Q) : qZ m h0 (d + 1) k_quantified 236 [some (.ref m), some (iv x1), none, some (iv x3), some (iv x4), some (iv x5), none, none] [iv s0] B Q := by
  unfold r_quantified_236 at w
  refine z_op (ck_at dt_quantified 125 rfl) rfl rfl ?_
  exact z_wk (r_quantified_237_ok hm w) ⟨rfl, ⟨rfl, ⟨rfl, ⟨rfl, ⟨rfl, trivial⟩⟩⟩⟩⟩
def r_quantified_214 (m : Nat) (h0 : qH) (d : Nat) (x1 x3 x4 x6 s0 : Int) (B : qB) (Q : qO → qB → Prop) : Prop := R32 (B 35 0) ∧ (B 35 0 ≥ 0 → r_quantified_237 m h0 d x1 x3 x4 s0 B Q) ∧ (B 35 0 < 0 → R32 s0 ∧ R32 x4 ∧ (s0 ≥ x4 → r_quantified_237 m h0 d x1 x3 x4 s0 B Q) ∧ (s0 < x4 → qZ m h0 d k_wrong 0 [some (.ref m), some (iv x6)] [] B (fun o B' => ∃ v : Int, o = .inl (some (iv v)) ∧ r_quantified_236 m h0 d x1 x3 x4 s0 v B' Q)))
theorem r_quantified_214_ok {m : Nat} {h0 : qH} {d : Nat} {x1 x3 x4 x6 s0 : Int} {B : qB} {Q : qO → qB → Prop} (hm : m + 100 < 1000000000) (w : r_quantified_214 m h0 d x1 x3 x4 x6 s0 B Q) : qZ m h0 (d + 1) k_quantified 214 [some (.ref m), some (iv x1), none, some (iv x3), some (iv x4), none, some (iv x6), none] [iv s0] B Q := by
  unfold r_quantified_214 at w
  obtain ⟨p1, w⟩ := w
  refine z_st1 (ok := q_isI) (n := 5) (L' := [some (.ref m), some (iv x1), none, some (iv x3), some (iv x4), some (iv s0), some (iv x6), none]) (ck_at dt_quantified 115 rfl) rfl (fun _ => rfl) (fun _ _ => rfl) rfl nl_quantified (by decide) rfl rfl ?_
  refine z_ldk (ok := q_isA) (n := 0) (ck_at dt_quantified 116 rfl) rfl rfl (fun _ => rfl) rfl rfl ?_
  refine z_getI (j := 35) (ck_at dt_quantified 117 rfl) own_quantified (mf_at 51 rfl) (by decide) rfl ?_
  refine z_ifz (t := 237) (ck_at dt_quantified 118 rfl) rfl p1 ?_ ?_
  · intro q; have w := w.1 q
    exact z_wk (r_quantified_237_ok hm w) ⟨rfl, ⟨rfl, ⟨rfl, ⟨rfl, ⟨rfl, trivial⟩⟩⟩⟩⟩
  · intro q; have w := w.2 q
    obtain ⟨p2, p3, w⟩ := w
    refine z_ldk (ok := q_isI) (n := 5) (ck_at dt_quantified 119 rfl) rfl rfl (fun _ => rfl) rfl rfl ?_
    refine z_ldk (ok := q_isI) (n := 4) (ck_at dt_quantified 120 rfl) rfl rfl (fun _ => rfl) rfl rfl ?_
    refine z_icmp (t := 237) (ck_at dt_quantified 121 rfl) rfl p2 p3 ?_ ?_
    · intro q; have w := w.1 q
      exact z_wk (r_quantified_237_ok hm w) ⟨rfl, ⟨rfl, ⟨rfl, ⟨rfl, ⟨rfl, trivial⟩⟩⟩⟩⟩
    · intro q; have w := w.2 q
      refine z_ldk (ok := q_isA) (n := 0) (ck_at dt_quantified 122 rfl) rfl rfl (fun _ => rfl) rfl rfl ?_
      refine z_ldk (ok := q_isI) (n := 6) (ck_at dt_quantified 123 rfl) rfl rfl (fun _ => rfl) rfl rfl ?_
      refine z_virt (k' := k_wrong) (n := 0) (as := [iv x6]) (r := []) (ck_at dt_quantified 124 rfl) own_quantified (mm_at 14 rfl) vk_wrong rfl nl_wrong rfl rfl rfl rfl ?_
      exact w.mono (Nat.le_refl _) (fun o B' ⟨v, ho, w⟩ => ⟨some (iv v), ho, z_wk (r_quantified_236_ok hm w) ⟨rfl, ⟨rfl, ⟨rfl, ⟨rfl, ⟨rfl, trivial⟩⟩⟩⟩⟩⟩)
def r_quantified_199 (m : Nat) (h0 : qH) (d : Nat) (x1 x3 x4 x5 s0 : Int) (B : qB) (Q : qO → qB → Prop) : Prop := R32 s0 ∧ (s0 = 125 → r_quantified_237 m h0 d x1 x3 x4 x5 B Q) ∧ (¬ s0 = 125 → qZ m h0 d k_number 0 [some (.ref m), none, none] [] B (fun o B' => ∃ v : Int, o = .inl (some (iv v)) ∧ r_quantified_214 m h0 d x1 x3 x4 (B 33 0) v B' Q))
theorem r_quantified_199_ok {m : Nat} {h0 : qH} {d : Nat} {x1 x3 x4 x5 s0 : Int} {B : qB} {Q : qO → qB → Prop} (hm : m + 100 < 1000000000) (w : r_quantified_199 m h0 d x1 x3 x4 x5 s0 B Q) : qZ m h0 (d + 1) k_quantified 199 [some (.ref m), some (iv x1), none, some (iv x3), some (iv x4), some (iv x5), none, none] [iv s0] B Q := by
  unfold r_quantified_199 at w
  obtain ⟨p1, w⟩ := w
  refine z_op (ck_at dt_quantified 108 rfl) rfl (o_bipush _ (by decide)) ?_
  refine z_icmp (t := 237) (ck_at dt_quantified 109 rfl) rfl p1 ⟨by decide, by decide⟩ ?_ ?_
  · intro q; have w := w.1 q
    exact z_wk (r_quantified_237_ok hm w) ⟨rfl, ⟨rfl, ⟨rfl, ⟨rfl, ⟨rfl, trivial⟩⟩⟩⟩⟩
  · intro q; have w := w.2 q
    refine z_ldk (ok := q_isA) (n := 0) (ck_at dt_quantified 110 rfl) rfl rfl (fun _ => rfl) rfl rfl ?_
    refine z_getI (j := 33) (ck_at dt_quantified 111 rfl) own_quantified (mf_at 57 rfl) (by decide) rfl ?_
    refine z_st1 (ok := q_isI) (n := 6) (L' := [some (.ref m), some (iv x1), none, some (iv x3), some (iv x4), some (iv x5), some (iv (B 33 0)), none]) (ck_at dt_quantified 112 rfl) rfl (fun _ => rfl) (fun _ _ => rfl) rfl nl_quantified (by decide) rfl rfl ?_
    refine z_ldk (ok := q_isA) (n := 0) (ck_at dt_quantified 113 rfl) rfl rfl (fun _ => rfl) rfl rfl ?_
    refine z_virt (k' := k_number) (n := 2) (as := []) (r := []) (ck_at dt_quantified 114 rfl) own_quantified (mm_at 16 rfl) vk_number rfl nl_number rfl rfl rfl rfl ?_
    exact w.mono (Nat.le_refl _) (fun o B' ⟨v, ho, w⟩ => ⟨some (iv v), ho, z_wk (r_quantified_214_ok hm w) ⟨rfl, ⟨rfl, ⟨rfl, ⟨rfl, ⟨rfl, trivial⟩⟩⟩⟩⟩⟩)
def r_quantified_173 (m : Nat) (h0 : qH) (d : Nat) (x1 x3 x4 x5 s0 : Int) (B : qB) (Q : qO → qB → Prop) : Prop := R32 s0 ∧ (¬ s0 = 44 → r_quantified_237 m h0 d x1 x3 x4 x5 B Q) ∧ (s0 = 44 → qZ m h0 d k_signAt 0 [some (.ref m), some (iv ((B 33 0) + 1))] [] (u2 B 33 0 ((B 33 0) + 1)) (fun o B' => ∃ v : Int, o = .inl (some (iv v)) ∧ r_quantified_199 m h0 d x1 x3 x4 (-1) v B' Q))
theorem r_quantified_173_ok {m : Nat} {h0 : qH} {d : Nat} {x1 x3 x4 x5 s0 : Int} {B : qB} {Q : qO → qB → Prop} (hm : m + 100 < 1000000000) (w : r_quantified_173 m h0 d x1 x3 x4 x5 s0 B Q) : qZ m h0 (d + 1) k_quantified 173 [some (.ref m), some (iv x1), none, some (iv x3), some (iv x4), some (iv x5), none, none] [iv s0] B Q := by
  unfold r_quantified_173 at w
  obtain ⟨p1, w⟩ := w
  refine z_op (ck_at dt_quantified 94 rfl) rfl (o_bipush _ (by decide)) ?_
  refine z_icmp (t := 237) (ck_at dt_quantified 95 rfl) rfl p1 ⟨by decide, by decide⟩ ?_ ?_
  · intro q; have w := w.1 q
    exact z_wk (r_quantified_237_ok hm w) ⟨rfl, ⟨rfl, ⟨rfl, ⟨rfl, ⟨rfl, trivial⟩⟩⟩⟩⟩
  · intro q; have w := w.2 q
    refine z_ldk (ok := q_isA) (n := 0) (ck_at dt_quantified 96 rfl) rfl rfl (fun _ => rfl) rfl rfl ?_
    refine z_op (ck_at dt_quantified 97 rfl) rfl rfl ?_
    refine z_getI (j := 33) (ck_at dt_quantified 98 rfl) own_quantified (mf_at 57 rfl) (by decide) rfl ?_
    refine z_op (ck_at dt_quantified 99 rfl) rfl (o_const _) ?_
    refine z_op (ck_at dt_quantified 100 rfl) rfl o_iadd ?_
    refine z_putI (j := 33) hm (ck_at dt_quantified 101 rfl) own_quantified (mf_at 57 rfl) (by decide) rfl rfl rfl ?_
    refine z_op (ck_at dt_quantified 102 rfl) rfl (o_const _) ?_
    refine z_st1 (ok := q_isI) (n := 5) (L' := [some (.ref m), some (iv x1), none, some (iv x3), some (iv x4), some (iv (-1)), none, none]) (ck_at dt_quantified 103 rfl) rfl (fun _ => rfl) (fun _ _ => rfl) rfl nl_quantified (by decide) rfl rfl ?_
    refine z_ldk (ok := q_isA) (n := 0) (ck_at dt_quantified 104 rfl) rfl rfl (fun _ => rfl) rfl rfl ?_
    refine z_ldk (ok := q_isA) (n := 0) (ck_at dt_quantified 105 rfl) rfl rfl (fun _ => rfl) rfl rfl ?_
    refine z_getI (j := 33) (ck_at dt_quantified 106 rfl) own_quantified (mf_at 57 rfl) (by decide) rfl ?_
    refine z_virt (k' := k_signAt) (n := 0) (as := [iv ((B 33 0) + 1)]) (r := []) (ck_at dt_quantified 107 rfl) own_quantified (mm_at 6 rfl) vk_signAt rfl nl_signAt rfl rfl rfl rfl ?_
    exact w.mono (Nat.le_refl _) (fun o B' ⟨v, ho, w⟩ => ⟨some (iv v), ho, z_wk (r_quantified_199_ok hm w) ⟨rfl, ⟨rfl, ⟨rfl, ⟨rfl, ⟨rfl, trivial⟩⟩⟩⟩⟩⟩)
def r_quantified_152 (m : Nat) (h0 : qH) (d : Nat) (x1 x3 s0 : Int) (B : qB) (Q : qO → qB → Prop) : Prop := R32 (B 35 0) ∧ (B 35 0 ≥ 0 → r_quantified_237 m h0 d x1 x3 s0 s0 B Q) ∧ (B 35 0 < 0 → qZ m h0 d k_signAt 0 [some (.ref m), some (iv (B 33 0))] [] B (fun o B' => ∃ v : Int, o = .inl (some (iv v)) ∧ r_quantified_173 m h0 d x1 x3 s0 s0 v B' Q))
theorem r_quantified_152_ok {m : Nat} {h0 : qH} {d : Nat} {x1 x3 s0 : Int} {B : qB} {Q : qO → qB → Prop} (hm : m + 100 < 1000000000) (w : r_quantified_152 m h0 d x1 x3 s0 B Q) : qZ m h0 (d + 1) k_quantified 152 [some (.ref m), some (iv x1), none, some (iv x3), none, none, none, none] [iv s0] B Q := by
  unfold r_quantified_152 at w
  obtain ⟨p1, w⟩ := w
  refine z_st1 (ok := q_isI) (n := 4) (L' := [some (.ref m), some (iv x1), none, some (iv x3), some (iv s0), none, none, none]) (ck_at dt_quantified 84 rfl) rfl (fun _ => rfl) (fun _ _ => rfl) rfl nl_quantified (by decide) rfl rfl ?_
  refine z_ldk (ok := q_isI) (n := 4) (ck_at dt_quantified 85 rfl) rfl rfl (fun _ => rfl) rfl rfl ?_
  refine z_st1 (ok := q_isI) (n := 5) (L' := [some (.ref m), some (iv x1), none, some (iv x3), some (iv s0), some (iv s0), none, none]) (ck_at dt_quantified 86 rfl) rfl (fun _ => rfl) (fun _ _ => rfl) rfl nl_quantified (by decide) rfl rfl ?_
  refine z_ldk (ok := q_isA) (n := 0) (ck_at dt_quantified 87 rfl) rfl rfl (fun _ => rfl) rfl rfl ?_
  refine z_getI (j := 35) (ck_at dt_quantified 88 rfl) own_quantified (mf_at 51 rfl) (by decide) rfl ?_
  refine z_ifz (t := 237) (ck_at dt_quantified 89 rfl) rfl p1 ?_ ?_
  · intro q; have w := w.1 q
    exact z_wk (r_quantified_237_ok hm w) ⟨rfl, ⟨rfl, ⟨rfl, ⟨rfl, ⟨rfl, trivial⟩⟩⟩⟩⟩
  · intro q; have w := w.2 q
    refine z_ldk (ok := q_isA) (n := 0) (ck_at dt_quantified 90 rfl) rfl rfl (fun _ => rfl) rfl rfl ?_
    refine z_ldk (ok := q_isA) (n := 0) (ck_at dt_quantified 91 rfl) rfl rfl (fun _ => rfl) rfl rfl ?_
    refine z_getI (j := 33) (ck_at dt_quantified 92 rfl) own_quantified (mf_at 57 rfl) (by decide) rfl ?_
    refine z_virt (k' := k_signAt) (n := 0) (as := [iv (B 33 0)]) (r := []) (ck_at dt_quantified 93 rfl) own_quantified (mm_at 6 rfl) vk_signAt rfl nl_signAt rfl rfl rfl rfl ?_
    exact w.mono (Nat.le_refl _) (fun o B' ⟨v, ho, w⟩ => ⟨some (iv v), ho, z_wk (r_quantified_173_ok hm w) ⟨rfl, ⟨rfl, ⟨rfl, ⟨rfl, ⟨rfl, trivial⟩⟩⟩⟩⟩⟩)
def r_quantified_130 (m : Nat) (h0 : qH) (d : Nat) (x1 x3 x4 s0 : Int) (B : qB) (Q : qO → qB → Prop) : Prop := R32 x3 ∧ (¬ x3 = 123 → r_quantified_285 m h0 d x1 x3 x4 s0 (u2 B 33 0 ((B 33 0) + 1)) Q) ∧ (x3 = 123 → qZ m h0 d k_number 0 [some (.ref m), none, none] [] (u2 B 33 0 ((B 33 0) + 1)) (fun o B' => ∃ v : Int, o = .inl (some (iv v)) ∧ r_quantified_152 m h0 d x1 x3 v B' Q))
theorem r_quantified_130_ok {m : Nat} {h0 : qH} {d : Nat} {x1 x3 x4 s0 : Int} {B : qB} {Q : qO → qB → Prop} (hm : m + 100 < 1000000000) (w : r_quantified_130 m h0 d x1 x3 x4 s0 B Q) : qZ m h0 (d + 1) k_quantified 130 [some (.ref m), some (iv x1), none, some (iv x3), some (iv x4), none, none, none] [iv s0] B Q := by
  unfold r_quantified_130 at w
  obtain ⟨p1, w⟩ := w
  refine z_st1 (ok := q_isI) (n := 5) (L' := [some (.ref m), some (iv x1), none, some (iv x3), some (iv x4), some (iv s0), none, none]) (ck_at dt_quantified 72 rfl) rfl (fun _ => rfl) (fun _ _ => rfl) rfl nl_quantified (by decide) rfl rfl ?_
  refine z_ldk (ok := q_isA) (n := 0) (ck_at dt_quantified 73 rfl) rfl rfl (fun _ => rfl) rfl rfl ?_
  refine z_op (ck_at dt_quantified 74 rfl) rfl rfl ?_
  refine z_getI (j := 33) (ck_at dt_quantified 75 rfl) own_quantified (mf_at 57 rfl) (by decide) rfl ?_
  refine z_op (ck_at dt_quantified 76 rfl) rfl (o_const _) ?_
  refine z_op (ck_at dt_quantified 77 rfl) rfl o_iadd ?_
  refine z_putI (j := 33) hm (ck_at dt_quantified 78 rfl) own_quantified (mf_at 57 rfl) (by decide) rfl rfl rfl ?_
  refine z_ldk (ok := q_isI) (n := 3) (ck_at dt_quantified 79 rfl) rfl rfl (fun _ => rfl) rfl rfl ?_
  refine z_op (ck_at dt_quantified 80 rfl) rfl (o_bipush _ (by decide)) ?_
  refine z_icmp (t := 285) (ck_at dt_quantified 81 rfl) rfl p1 ⟨by decide, by decide⟩ ?_ ?_
  · intro q; have w := w.1 q
    exact z_wk (r_quantified_285_ok hm w) ⟨rfl, ⟨rfl, ⟨rfl, ⟨rfl, ⟨rfl, trivial⟩⟩⟩⟩⟩
  · intro q; have w := w.2 q
    refine z_ldk (ok := q_isA) (n := 0) (ck_at dt_quantified 82 rfl) rfl rfl (fun _ => rfl) rfl rfl ?_
    refine z_virt (k' := k_number) (n := 2) (as := []) (r := []) (ck_at dt_quantified 83 rfl) own_quantified (mm_at 16 rfl) vk_number rfl nl_number rfl rfl rfl rfl ?_
    exact w.mono (Nat.le_refl _) (fun o B' ⟨v, ho, w⟩ => ⟨some (iv v), ho, z_wk (r_quantified_152_ok hm w) ⟨rfl, ⟨rfl, ⟨rfl, trivial⟩⟩⟩⟩)
def r_quantified_117 (m : Nat) (h0 : qH) (d : Nat) (x1 x3 s0 : Int) (B : qB) (Q : qO → qB → Prop) : Prop := R32 x3 ∧ (¬ x3 = 63 → r_quantified_130 m h0 d x1 x3 s0 (-1) B Q) ∧ (x3 = 63 → r_quantified_130 m h0 d x1 x3 s0 1 B Q)
theorem r_quantified_117_ok {m : Nat} {h0 : qH} {d : Nat} {x1 x3 s0 : Int} {B : qB} {Q : qO → qB → Prop} (hm : m + 100 < 1000000000) (w : r_quantified_117 m h0 d x1 x3 s0 B Q) : qZ m h0 (d + 1) k_quantified 117 [some (.ref m), some (iv x1), none, some (iv x3), none, none, none, none] [iv s0] B Q := by
  unfold r_quantified_117 at w
  obtain ⟨p1, w⟩ := w
  refine z_st1 (ok := q_isI) (n := 4) (L' := [some (.ref m), some (iv x1), none, some (iv x3), some (iv s0), none, none, none]) (ck_at dt_quantified 65 rfl) rfl (fun _ => rfl) (fun _ _ => rfl) rfl nl_quantified (by decide) rfl rfl ?_
  refine z_ldk (ok := q_isI) (n := 3) (ck_at dt_quantified 66 rfl) rfl rfl (fun _ => rfl) rfl rfl ?_
  refine z_op (ck_at dt_quantified 67 rfl) rfl (o_bipush _ (by decide)) ?_
  refine z_icmp (t := 129) (ck_at dt_quantified 68 rfl) rfl p1 ⟨by decide, by decide⟩ ?_ ?_
  · intro q; have w := w.1 q
    refine z_op (ck_at dt_quantified 71 rfl) rfl (o_const _) ?_
    exact z_wk (r_quantified_130_ok hm w) ⟨rfl, ⟨rfl, ⟨rfl, ⟨rfl, trivial⟩⟩⟩⟩
  · intro q; have w := w.2 q
    refine z_op (ck_at dt_quantified 69 rfl) rfl (o_const _) ?_
    refine z_goto (t := 130) (ck_at dt_quantified 70 rfl) rfl ?_
    exact z_wk (r_quantified_130_ok hm w) ⟨rfl, ⟨rfl, ⟨rfl, ⟨rfl, trivial⟩⟩⟩⟩
def r_quantified_105 (m : Nat) (h0 : qH) (d : Nat) (s0 : Int) (B : qB) (Q : qO → qB → Prop) : Prop := Q (.inl (some (iv s0))) B
theorem r_quantified_105_ok {m : Nat} {h0 : qH} {d : Nat} {s0 : Int} {B : qB} {Q : qO → qB → Prop} (hm : m + 100 < 1000000000) (w : r_quantified_105 m h0 d s0 B Q) : qZ m h0 (d + 1) k_quantified 105 [none, none, none, none, none, none, none, none] [iv s0] B Q := by
  unfold r_quantified_105 at w
  exact z_retI (ck_at dt_quantified 58 rfl) rt_quantified w
def r_quantified_93 (m : Nat) (h0 : qH) (d : Nat) (x1 x2 x3 : Int) (B : qB) (Q : qO → qB → Prop) : Prop := R32 x2 ∧ (x2 = 0 → R32 x3 ∧ (¬ x3 = 43 → r_quantified_117 m h0 d x1 x3 0 B Q) ∧ (x3 = 43 → r_quantified_117 m h0 d x1 x3 1 B Q)) ∧ (¬ x2 = 0 → qZ m h0 d k_wrong 0 [some (.ref m), some (iv (B 33 0))] [] B (fun o B' => ∃ v : Int, o = .inl (some (iv v)) ∧ r_quantified_105 m h0 d v B' Q))
theorem r_quantified_93_ok {m : Nat} {h0 : qH} {d : Nat} {x1 x2 x3 : Int} {B : qB} {Q : qO → qB → Prop} (hm : m + 100 < 1000000000) (w : r_quantified_93 m h0 d x1 x2 x3 B Q) : qZ m h0 (d + 1) k_quantified 93 [some (.ref m), some (iv x1), some (iv x2), some (iv x3), none, none, none, none] [] B Q := by
  unfold r_quantified_93 at w
  obtain ⟨p1, w⟩ := w
  refine z_ldk (ok := q_isI) (n := 2) (ck_at dt_quantified 52 rfl) rfl rfl (fun _ => rfl) rfl rfl ?_
  refine z_ifz (t := 106) (ck_at dt_quantified 53 rfl) rfl p1 ?_ ?_
  · intro q; have w := w.1 q
    obtain ⟨p2, w⟩ := w
    refine z_ldk (ok := q_isI) (n := 3) (ck_at dt_quantified 59 rfl) rfl rfl (fun _ => rfl) rfl rfl ?_
    refine z_op (ck_at dt_quantified 60 rfl) rfl (o_bipush _ (by decide)) ?_
    refine z_icmp (t := 116) (ck_at dt_quantified 61 rfl) rfl p2 ⟨by decide, by decide⟩ ?_ ?_
    · intro q; have w := w.1 q
      refine z_op (ck_at dt_quantified 64 rfl) rfl (o_const _) ?_
      exact z_wk (r_quantified_117_ok hm w) ⟨rfl, ⟨rfl, ⟨rfl, trivial⟩⟩⟩
    · intro q; have w := w.2 q
      refine z_op (ck_at dt_quantified 62 rfl) rfl (o_const _) ?_
      refine z_goto (t := 117) (ck_at dt_quantified 63 rfl) rfl ?_
      exact z_wk (r_quantified_117_ok hm w) ⟨rfl, ⟨rfl, ⟨rfl, trivial⟩⟩⟩
  · intro q; have w := w.2 q
    refine z_ldk (ok := q_isA) (n := 0) (ck_at dt_quantified 54 rfl) rfl rfl (fun _ => rfl) rfl rfl ?_
    refine z_ldk (ok := q_isA) (n := 0) (ck_at dt_quantified 55 rfl) rfl rfl (fun _ => rfl) rfl rfl ?_
    refine z_getI (j := 33) (ck_at dt_quantified 56 rfl) own_quantified (mf_at 57 rfl) (by decide) rfl ?_
    refine z_virt (k' := k_wrong) (n := 0) (as := [iv (B 33 0)]) (r := []) (ck_at dt_quantified 57 rfl) own_quantified (mm_at 14 rfl) vk_wrong rfl nl_wrong rfl rfl rfl rfl ?_
    exact w.mono (Nat.le_refl _) (fun o B' ⟨v, ho, w⟩ => ⟨some (iv v), ho, z_wk (r_quantified_105_ok hm w) trivial⟩)
def r_quantified_66 (m : Nat) (h0 : qH) (d : Nat) (x1 x2 s0 : Int) (B : qB) (Q : qO → qB → Prop) : Prop := R32 s0 ∧ (s0 = 42 → r_quantified_93 m h0 d x1 x2 s0 B Q) ∧ (¬ s0 = 42 → (s0 = 43 → r_quantified_93 m h0 d x1 x2 s0 B Q) ∧ (¬ s0 = 43 → (s0 = 63 → r_quantified_93 m h0 d x1 x2 s0 B Q) ∧ (¬ s0 = 63 → (s0 = 123 → r_quantified_93 m h0 d x1 x2 s0 B Q) ∧ (¬ s0 = 123 → Q (.inl (some (iv x1))) B))))
theorem r_quantified_66_ok {m : Nat} {h0 : qH} {d : Nat} {x1 x2 s0 : Int} {B : qB} {Q : qO → qB → Prop} (hm : m + 100 < 1000000000) (w : r_quantified_66 m h0 d x1 x2 s0 B Q) : qZ m h0 (d + 1) k_quantified 66 [some (.ref m), some (iv x1), some (iv x2), none, none, none, none, none] [iv s0] B Q := by
  unfold r_quantified_66 at w
  obtain ⟨p1, w⟩ := w
  refine z_st1 (ok := q_isI) (n := 3) (L' := [some (.ref m), some (iv x1), some (iv x2), some (iv s0), none, none, none, none]) (ck_at dt_quantified 37 rfl) rfl (fun _ => rfl) (fun _ _ => rfl) rfl nl_quantified (by decide) rfl rfl ?_
  refine z_ldk (ok := q_isI) (n := 3) (ck_at dt_quantified 38 rfl) rfl rfl (fun _ => rfl) rfl rfl ?_
  refine z_op (ck_at dt_quantified 39 rfl) rfl (o_bipush _ (by decide)) ?_
  refine z_icmp (t := 93) (ck_at dt_quantified 40 rfl) rfl p1 ⟨by decide, by decide⟩ ?_ ?_
  · intro q; have w := w.1 q
    exact z_wk (r_quantified_93_ok hm w) ⟨rfl, ⟨rfl, ⟨rfl, ⟨rfl, trivial⟩⟩⟩⟩
  · intro q; have w := w.2 q
    refine z_ldk (ok := q_isI) (n := 3) (ck_at dt_quantified 41 rfl) rfl rfl (fun _ => rfl) rfl rfl ?_
    refine z_op (ck_at dt_quantified 42 rfl) rfl (o_bipush _ (by decide)) ?_
    refine z_icmp (t := 93) (ck_at dt_quantified 43 rfl) rfl p1 ⟨by decide, by decide⟩ ?_ ?_
    · intro q; have w := w.1 q
      exact z_wk (r_quantified_93_ok hm w) ⟨rfl, ⟨rfl, ⟨rfl, ⟨rfl, trivial⟩⟩⟩⟩
    · intro q; have w := w.2 q
      refine z_ldk (ok := q_isI) (n := 3) (ck_at dt_quantified 44 rfl) rfl rfl (fun _ => rfl) rfl rfl ?_
      refine z_op (ck_at dt_quantified 45 rfl) rfl (o_bipush _ (by decide)) ?_
      refine z_icmp (t := 93) (ck_at dt_quantified 46 rfl) rfl p1 ⟨by decide, by decide⟩ ?_ ?_
      · intro q; have w := w.1 q
        exact z_wk (r_quantified_93_ok hm w) ⟨rfl, ⟨rfl, ⟨rfl, ⟨rfl, trivial⟩⟩⟩⟩
      · intro q; have w := w.2 q
        refine z_ldk (ok := q_isI) (n := 3) (ck_at dt_quantified 47 rfl) rfl rfl (fun _ => rfl) rfl rfl ?_
        refine z_op (ck_at dt_quantified 48 rfl) rfl (o_bipush _ (by decide)) ?_
        refine z_icmp (t := 93) (ck_at dt_quantified 49 rfl) rfl p1 ⟨by decide, by decide⟩ ?_ ?_
        · intro q; have w := w.1 q
          exact z_wk (r_quantified_93_ok hm w) ⟨rfl, ⟨rfl, ⟨rfl, ⟨rfl, trivial⟩⟩⟩⟩
        · intro q; have w := w.2 q
          refine z_ldk (ok := q_isI) (n := 1) (ck_at dt_quantified 50 rfl) rfl rfl (fun _ => rfl) rfl rfl ?_
          exact z_retI (ck_at dt_quantified 51 rfl) rt_quantified w
def r_quantified_57 (m : Nat) (h0 : qH) (d : Nat) (x1 s0 : Int) (B : qB) (Q : qO → qB → Prop) : Prop := qZ m h0 d k_signAt 0 [some (.ref m), some (iv (B 33 0))] [] B (fun o B' => ∃ v : Int, o = .inl (some (iv v)) ∧ r_quantified_66 m h0 d x1 s0 v B' Q)
theorem r_quantified_57_ok {m : Nat} {h0 : qH} {d : Nat} {x1 s0 : Int} {B : qB} {Q : qO → qB → Prop} (hm : m + 100 < 1000000000) (w : r_quantified_57 m h0 d x1 s0 B Q) : qZ m h0 (d + 1) k_quantified 57 [some (.ref m), some (iv x1), none, none, none, none, none, none] [iv s0] B Q := by
  unfold r_quantified_57 at w
  refine z_st1 (ok := q_isI) (n := 2) (L' := [some (.ref m), some (iv x1), some (iv s0), none, none, none, none, none]) (ck_at dt_quantified 32 rfl) rfl (fun _ => rfl) (fun _ _ => rfl) rfl nl_quantified (by decide) rfl rfl ?_
  refine z_ldk (ok := q_isA) (n := 0) (ck_at dt_quantified 33 rfl) rfl rfl (fun _ => rfl) rfl rfl ?_
  refine z_ldk (ok := q_isA) (n := 0) (ck_at dt_quantified 34 rfl) rfl rfl (fun _ => rfl) rfl rfl ?_
  refine z_getI (j := 33) (ck_at dt_quantified 35 rfl) own_quantified (mf_at 57 rfl) (by decide) rfl ?_
  refine z_virt (k' := k_signAt) (n := 0) (as := [iv (B 33 0)]) (r := []) (ck_at dt_quantified 36 rfl) own_quantified (mm_at 6 rfl) vk_signAt rfl nl_signAt rfl rfl rfl rfl ?_
  exact w.mono (Nat.le_refl _) (fun o B' ⟨v, ho, w⟩ => ⟨some (iv v), ho, z_wk (r_quantified_66_ok hm w) ⟨rfl, ⟨rfl, ⟨rfl, trivial⟩⟩⟩⟩)
def r_quantified_52 (m : Nat) (h0 : qH) (d : Nat) (x1 : Int) (B : qB) (Q : qO → qB → Prop) : Prop := r_quantified_57 m h0 d x1 1 B Q
theorem r_quantified_52_ok {m : Nat} {h0 : qH} {d : Nat} {x1 : Int} {B : qB} {Q : qO → qB → Prop} (hm : m + 100 < 1000000000) (w : r_quantified_52 m h0 d x1 B Q) : qZ m h0 (d + 1) k_quantified 52 [some (.ref m), some (iv x1), none, none, none, none, none, none] [] B Q := by
  unfold r_quantified_52 at w
  refine z_op (ck_at dt_quantified 29 rfl) rfl (o_const _) ?_
  refine z_goto (t := 57) (ck_at dt_quantified 30 rfl) rfl ?_
  exact z_wk (r_quantified_57_ok hm w) ⟨rfl, ⟨rfl, trivial⟩⟩
def r_quantified_31 (m : Nat) (h0 : qH) (d : Nat) (x1 : Int) (B : qB) (Q : qO → qB → Prop) : Prop := 0 ≤ x1 ∧ x1 < 3000 ∧ R32 (B 17 x1) ∧ (B 17 x1 = 5 → r_quantified_52 m h0 d x1 B Q) ∧ (¬ B 17 x1 = 5 → (¬ B 17 x1 = 6 → r_quantified_57 m h0 d x1 0 B Q) ∧ (B 17 x1 = 6 → r_quantified_52 m h0 d x1 B Q))
theorem r_quantified_31_ok {m : Nat} {h0 : qH} {d : Nat} {x1 : Int} {B : qB} {Q : qO → qB → Prop} (hm : m + 100 < 1000000000) (w : r_quantified_31 m h0 d x1 B Q) : qZ m h0 (d + 1) k_quantified 31 [some (.ref m), some (iv x1), none, none, none, none, none, none] [] B Q := by
  unfold r_quantified_31 at w
  obtain ⟨p1, p2, p3, w⟩ := w
  refine z_ldk (ok := q_isA) (n := 0) (ck_at dt_quantified 17 rfl) rfl rfl (fun _ => rfl) rfl rfl ?_
  refine z_getR (j := 17) (a := 12) (ck_at dt_quantified 18 rfl) own_quantified (mf_at 13 rfl) (by decide) rfl rfl ?_
  refine z_ldk (ok := q_isI) (n := 1) (ck_at dt_quantified 19 rfl) rfl rfl (fun _ => rfl) rfl rfl ?_
  refine z_iald (j := 17) (n := 3000) (ck_at dt_quantified 20 rfl) rfl rfl rfl p1 p2 ?_
  refine z_op (ck_at dt_quantified 21 rfl) rfl (o_const _) ?_
  refine z_icmp (t := 52) (ck_at dt_quantified 22 rfl) rfl p3 ⟨by decide, by decide⟩ ?_ ?_
  · intro q; have w := w.1 q
    exact z_wk (r_quantified_52_ok hm w) ⟨rfl, ⟨rfl, trivial⟩⟩
  · intro q; have w := w.2 q
    refine z_ldk (ok := q_isA) (n := 0) (ck_at dt_quantified 23 rfl) rfl rfl (fun _ => rfl) rfl rfl ?_
    refine z_getR (j := 17) (a := 12) (ck_at dt_quantified 24 rfl) own_quantified (mf_at 13 rfl) (by decide) rfl rfl ?_
    refine z_ldk (ok := q_isI) (n := 1) (ck_at dt_quantified 25 rfl) rfl rfl (fun _ => rfl) rfl rfl ?_
    refine z_iald (j := 17) (n := 3000) (ck_at dt_quantified 26 rfl) rfl rfl rfl p1 p2 ?_
    refine z_op (ck_at dt_quantified 27 rfl) rfl (o_bipush _ (by decide)) ?_
    refine z_icmp (t := 56) (ck_at dt_quantified 28 rfl) rfl p3 ⟨by decide, by decide⟩ ?_ ?_
    · intro q; have w := w.1 q
      refine z_op (ck_at dt_quantified 31 rfl) rfl (o_const _) ?_
      exact z_wk (r_quantified_57_ok hm w) ⟨rfl, ⟨rfl, trivial⟩⟩
    · intro q; have w := w.2 q
      exact z_wk (r_quantified_52_ok hm w) ⟨rfl, ⟨rfl, trivial⟩⟩
def r_quantified_0 (m : Nat) (h0 : qH) (d : Nat) (x1 : Int) (B : qB) (Q : qO → qB → Prop) : Prop := R32 (B 35 0) ∧ (B 35 0 < 0 → 0 ≤ x1 ∧ x1 < 3000 ∧ R32 (B 17 x1) ∧ (B 17 x1 < 7 → r_quantified_31 m h0 d x1 B Q) ∧ (B 17 x1 ≥ 7 → (B 17 x1 ≤ 10 → r_quantified_52 m h0 d x1 B Q) ∧ (B 17 x1 > 10 → r_quantified_31 m h0 d x1 B Q))) ∧ (B 35 0 ≥ 0 → Q (.inl (some (iv x1))) B)
theorem r_quantified_0_ok {m : Nat} {h0 : qH} {d : Nat} {x1 : Int} {B : qB} {Q : qO → qB → Prop} (hm : m + 100 < 1000000000) (w : r_quantified_0 m h0 d x1 B Q) : qZ m h0 (d + 1) k_quantified 0 [some (.ref m), some (iv x1), none, none, none, none, none, none] [] B Q := by
  unfold r_quantified_0 at w
  obtain ⟨p1, w⟩ := w
  refine z_ldk (ok := q_isA) (n := 0) (ck_at dt_quantified 0 rfl) rfl rfl (fun _ => rfl) rfl rfl ?_
  refine z_getI (j := 35) (ck_at dt_quantified 1 rfl) own_quantified (mf_at 51 rfl) (by decide) rfl ?_
  refine z_ifz (t := 9) (ck_at dt_quantified 2 rfl) rfl p1 ?_ ?_
  · intro q; have w := w.1 q
    obtain ⟨p2, p3, p4, w⟩ := w
    refine z_ldk (ok := q_isA) (n := 0) (ck_at dt_quantified 5 rfl) rfl rfl (fun _ => rfl) rfl rfl ?_
    refine z_getR (j := 17) (a := 12) (ck_at dt_quantified 6 rfl) own_quantified (mf_at 13 rfl) (by decide) rfl rfl ?_
    refine z_ldk (ok := q_isI) (n := 1) (ck_at dt_quantified 7 rfl) rfl rfl (fun _ => rfl) rfl rfl ?_
    refine z_iald (j := 17) (n := 3000) (ck_at dt_quantified 8 rfl) rfl rfl rfl p2 p3 ?_
    refine z_op (ck_at dt_quantified 9 rfl) rfl (o_bipush _ (by decide)) ?_
    refine z_icmp (t := 31) (ck_at dt_quantified 10 rfl) rfl p4 ⟨by decide, by decide⟩ ?_ ?_
    · intro q; have w := w.1 q
      exact z_wk (r_quantified_31_ok hm w) ⟨rfl, ⟨rfl, trivial⟩⟩
    · intro q; have w := w.2 q
      refine z_ldk (ok := q_isA) (n := 0) (ck_at dt_quantified 11 rfl) rfl rfl (fun _ => rfl) rfl rfl ?_
      refine z_getR (j := 17) (a := 12) (ck_at dt_quantified 12 rfl) own_quantified (mf_at 13 rfl) (by decide) rfl rfl ?_
      refine z_ldk (ok := q_isI) (n := 1) (ck_at dt_quantified 13 rfl) rfl rfl (fun _ => rfl) rfl rfl ?_
      refine z_iald (j := 17) (n := 3000) (ck_at dt_quantified 14 rfl) rfl rfl rfl p2 p3 ?_
      refine z_op (ck_at dt_quantified 15 rfl) rfl (o_bipush _ (by decide)) ?_
      refine z_icmp (t := 52) (ck_at dt_quantified 16 rfl) rfl p4 ⟨by decide, by decide⟩ ?_ ?_
      · intro q; have w := w.1 q
        exact z_wk (r_quantified_52_ok hm w) ⟨rfl, ⟨rfl, trivial⟩⟩
      · intro q; have w := w.2 q
        exact z_wk (r_quantified_31_ok hm w) ⟨rfl, ⟨rfl, trivial⟩⟩
  · intro q; have w := w.2 q
    refine z_ldk (ok := q_isI) (n := 1) (ck_at dt_quantified 3 rfl) rfl rfl (fun _ => rfl) rfl rfl ?_
    exact z_retI (ck_at dt_quantified 4 rfl) rt_quantified w
/-! atom()I -/
def t_atom : List (Nat × Instr × Nat) := [(0, .aload_n 0, 1), (1, .aload_n 0, 1), (2, .getfield 213, 3), (5, .invokevirtual 220, 3), (8, .istore_n 1, 1), (9, .iload_n 1, 1), (10, .bipush 32, 2), (12, .if_icmp .lt 33, 3), (15, .iload_n 1, 1), (16, .bipush 126, 2), (18, .if_icmp .gt 27, 3), (21, .iload_n 1, 1), (22, .bipush 42, 2), (24, .if_icmp .eq 21, 3), (27, .iload_n 1, 1), (28, .bipush 43, 2), (30, .if_icmp .eq 15, 3), (33, .iload_n 1, 1), (34, .bipush 63, 2), (36, .if_icmp .eq 9, 3), (39, .iload_n 1, 1), (40, .bipush 123, 2), (42, .if_icmp .ne 12, 3), (45, .aload_n 0, 1), (46, .aload_n 0, 1), (47, .getfield 213, 3), (50, .invokevirtual 242, 3), (53, .ireturn, 1), (54, .iload_n 1, 1), (55, .bipush 94, 2), (57, .if_icmp .eq 9, 3), (60, .iload_n 1, 1), (61, .bipush 36, 2), (63, .if_icmp .ne 31, 3), (66, .aload_n 0, 1), (67, .dup, 1), (68, .getfield 213, 3), (71, .iconst 1, 1), (72, .iadd, 1), (73, .putfield 213, 3), (76, .aload_n 0, 1), (77, .iload_n 1, 1), (78, .bipush 94, 2), (80, .if_icmp .ne 8, 3), (83, .bipush 7, 2), (85, .goto 5, 3), (88, .bipush 8, 2), (90, .invokevirtual 252, 3), (93, .ireturn, 1), (94, .iload_n 1, 1), (95, .bipush 92, 2), (97, .if_icmp .ne 54, 3), (100, .aload_n 0, 1), (101, .aload_n 0, 1), (102, .getfield 213, 3), (105, .iconst 1, 1), (106, .iadd, 1), (107, .invokevirtual 220, 3), (110, .istore_n 2, 1), (111, .iload_n 2, 1), (112, .bipush 98, 2), (114, .if_icmp .eq 9, 3), (117, .iload_n 2, 1), (118, .bipush 66, 2), (120, .if_icmp .ne 31, 3), (123, .aload_n 0, 1), (124, .dup, 1), (125, .getfield 213, 3), (128, .iconst 2, 1), (129, .iadd, 1), (130, .putfield 213, 3), (133, .aload_n 0, 1), (134, .iload_n 2, 1), (135, .bipush 98, 2), (137, .if_icmp .ne 8, 3), (140, .bipush 9, 2), (142, .goto 5, 3), (145, .bipush 10, 2), (147, .invokevirtual 252, 3), (150, .ireturn, 1), (151, .aload_n 0, 1), (152, .iconst 0, 1), (153, .invokevirtual 252, 3), (156, .istore_n 2, 1), (157, .aload_n 0, 1), (158, .getfield 68, 3), (161, .iload_n 2, 1), (162, .aload_n 0, 1), (163, .invokevirtual 255, 3), (166, .iastore, 1), (167, .iload_n 1, 1), (168, .bipush 46, 2), (170, .if_icmp .ne 48, 3), (173, .iconst 0, 1), (174, .istore_n 3, 1), (175, .iload_n 3, 1), (176, .sipush 256, 3), (179, .if_icmp .ge 26, 3), (182, .iload_n 3, 1), (183, .bipush 10, 2), (185, .if_icmp .eq 14, 3), (188, .aload_n 0, 1), (189, .aload_n 0, 1), (190, .getfield 68, 3), (193, .iload_n 2, 1), (194, .iaload, 1), (195, .iload_n 3, 1), (196, .invokevirtual 258, 3), (199, .iinc 3 1, 3), (202, .goto (-27), 3), (205, .aload_n 0, 1), (206, .dup, 1), (207, .getfield 213, 3), (210, .iconst 1, 1), (211, .iadd, 1), (212, .putfield 213, 3), (215, .goto 72, 3), (218, .iload_n 1, 1), (219, .bipush 92, 2), (221, .if_icmp .ne 26, 3), (224, .aload_n 0, 1), (225, .dup, 1), (226, .getfield 213, 3), (229, .iconst 1, 1), (230, .iadd, 1), (231, .putfield 213, 3), (234, .aload_n 0, 1), (235, .aload_n 0, 1), (236, .getfield 68, 3), (239, .iload_n 2, 1), (240, .iaload, 1), (241, .invokevirtual 262, 3), (244, .goto 43, 3), (247, .iload_n 1, 1), (248, .bipush 91, 2), (250, .if_icmp .ne 16, 3), (253, .aload_n 0, 1), (254, .aload_n 0, 1), (255, .getfield 68, 3), (258, .iload_n 2, 1), (259, .iaload, 1), (260, .invokevirtual 265, 3), (263, .goto 24, 3), (266, .aload_n 0, 1), (267, .aload_n 0, 1), (268, .getfield 68, 3), (271, .iload_n 2, 1), (272, .iaload, 1), (273, .iload_n 1, 1), (274, .invokevirtual 258, 3), (277, .aload_n 0, 1), (278, .dup, 1), (279, .getfield 213, 3), (282, .iconst 1, 1), (283, .iadd, 1), (284, .putfield 213, 3), (287, .iload_n 2, 1), (288, .ireturn, 1)]
set_option maxRecDepth 100000 in
theorem dt_atom : q_ck k_atom t_atom = true := by decide +kernel
def r_atom_277 (m : Nat) (h0 : qH) (d : Nat) (x2 : Int) (B : qB) (Q : qO → qB → Prop) : Prop := Q (.inl (some (iv x2))) (u2 B 33 0 ((B 33 0) + 1))
theorem r_atom_277_ok {m : Nat} {h0 : qH} {d : Nat} {x2 : Int} {B : qB} {Q : qO → qB → Prop} (hm : m + 100 < 1000000000) (w : r_atom_277 m h0 d x2 B Q) : qZ m h0 (d + 1) k_atom 277 [some (.ref m), none, some (iv x2), none] [] B Q := by
  unfold r_atom_277 at w
  refine z_ldk (ok := q_isA) (n := 0) (ck_at dt_atom 150 rfl) rfl rfl (fun _ => rfl) rfl rfl ?_
  refine z_op (ck_at dt_atom 151 rfl) rfl rfl ?_
  refine z_getI (j := 33) (ck_at dt_atom 152 rfl) own_atom (mf_at 57 rfl) (by decide) rfl ?_
  refine z_op (ck_at dt_atom 153 rfl) rfl (o_const _) ?_
  refine z_op (ck_at dt_atom 154 rfl) rfl o_iadd ?_
  refine z_putI (j := 33) hm (ck_at dt_atom 155 rfl) own_atom (mf_at 57 rfl) (by decide) rfl rfl rfl ?_
  refine z_ldk (ok := q_isI) (n := 2) (ck_at dt_atom 156 rfl) rfl rfl (fun _ => rfl) rfl rfl ?_
  exact z_retI (ck_at dt_atom 157 rfl) rt_atom w
def r_atom_263 (m : Nat) (h0 : qH) (d : Nat) (x2 : Int) (B : qB) (Q : qO → qB → Prop) : Prop := Q (.inl (some (iv x2))) B
theorem r_atom_263_ok {m : Nat} {h0 : qH} {d : Nat} {x2 : Int} {B : qB} {Q : qO → qB → Prop} (hm : m + 100 < 1000000000) (w : r_atom_263 m h0 d x2 B Q) : qZ m h0 (d + 1) k_atom 263 [none, none, some (iv x2), none] [] B Q := by
  unfold r_atom_263 at w
  refine z_goto (t := 287) (ck_at dt_atom 142 rfl) rfl ?_
  refine z_ldk (ok := q_isI) (n := 2) (ck_at dt_atom 156 rfl) rfl rfl (fun _ => rfl) rfl rfl ?_
  exact z_retI (ck_at dt_atom 157 rfl) rt_atom w
def r_atom_244 (m : Nat) (h0 : qH) (d : Nat) (x2 : Int) (B : qB) (Q : qO → qB → Prop) : Prop := Q (.inl (some (iv x2))) B
theorem r_atom_244_ok {m : Nat} {h0 : qH} {d : Nat} {x2 : Int} {B : qB} {Q : qO → qB → Prop} (hm : m + 100 < 1000000000) (w : r_atom_244 m h0 d x2 B Q) : qZ m h0 (d + 1) k_atom 244 [none, none, some (iv x2), none] [] B Q := by
  unfold r_atom_244 at w
  refine z_goto (t := 287) (ck_at dt_atom 132 rfl) rfl ?_
  refine z_ldk (ok := q_isI) (n := 2) (ck_at dt_atom 156 rfl) rfl rfl (fun _ => rfl) rfl rfl ?_
  exact z_retI (ck_at dt_atom 157 rfl) rt_atom w
def r_atom_199 (m : Nat) (h0 : qH) (d : Nat) (x2 x3 : Int) (B : qB) (Q : qO → qB → Prop) : Prop := qZ m h0 (d + 1) k_atom 175 [some (.ref m), none, some (iv x2), some (iv (x3 + 1))] [] B Q
theorem r_atom_199_ok {m : Nat} {h0 : qH} {d : Nat} {x2 x3 : Int} {B : qB} {Q : qO → qB → Prop} (hm : m + 100 < 1000000000) (w : r_atom_199 m h0 d x2 x3 B Q) : qZ m h0 (d + 1) k_atom 199 [some (.ref m), none, some (iv x2), some (iv x3)] [] B Q := by
  unfold r_atom_199 at w
  refine z_iinc (n := 3) (L' := [some (.ref m), none, some (iv x2), some (iv (x3 + 1))]) (ck_at dt_atom 108 rfl) rfl nl_atom (by decide) rfl rfl ?_
  refine z_goto (t := 175) (ck_at dt_atom 109 rfl) rfl ?_
  exact z_wk w ⟨rfl, ⟨rfl, ⟨rfl, trivial⟩⟩⟩
def r_atom_175 (m : Nat) (h0 : qH) (d : Nat) (x2 x3 : Int) (B : qB) (Q : qO → qB → Prop) : Prop := R32 x3 ∧ (x3 ≥ 256 → Q (.inl (some (iv x2))) (u2 B 33 0 ((B 33 0) + 1))) ∧ (x3 < 256 → (x3 = 10 → r_atom_199 m h0 d x2 x3 B Q) ∧ (¬ x3 = 10 → 0 ≤ x2 ∧ x2 < 3000 ∧ qZ m h0 d k_include 0 [some (.ref m), some (iv (B 23 x2)), some (iv x3)] [] B (fun o B' => o = .inl none ∧ r_atom_199 m h0 d x2 x3 B' Q)))
theorem r_atom_175_ok {m : Nat} {h0 : qH} {d : Nat} {x2 x3 : Int} {B : qB} {Q : qO → qB → Prop} (hm : m + 100 < 1000000000) (w : r_atom_175 m h0 d x2 x3 B Q) : qZ m h0 (d + 1) k_atom 175 [some (.ref m), none, some (iv x2), some (iv x3)] [] B Q := by
  unfold r_atom_175 at w
  obtain ⟨p1, w⟩ := w
  refine z_ldk (ok := q_isI) (n := 3) (ck_at dt_atom 95 rfl) rfl rfl (fun _ => rfl) rfl rfl ?_
  refine z_op (ck_at dt_atom 96 rfl) rfl (o_sipush _ (by decide)) ?_
  refine z_icmp (t := 205) (ck_at dt_atom 97 rfl) rfl p1 ⟨by decide, by decide⟩ ?_ ?_
  · intro q; have w := w.1 q
    refine z_ldk (ok := q_isA) (n := 0) (ck_at dt_atom 110 rfl) rfl rfl (fun _ => rfl) rfl rfl ?_
    refine z_op (ck_at dt_atom 111 rfl) rfl rfl ?_
    refine z_getI (j := 33) (ck_at dt_atom 112 rfl) own_atom (mf_at 57 rfl) (by decide) rfl ?_
    refine z_op (ck_at dt_atom 113 rfl) rfl (o_const _) ?_
    refine z_op (ck_at dt_atom 114 rfl) rfl o_iadd ?_
    refine z_putI (j := 33) hm (ck_at dt_atom 115 rfl) own_atom (mf_at 57 rfl) (by decide) rfl rfl rfl ?_
    refine z_goto (t := 287) (ck_at dt_atom 116 rfl) rfl ?_
    refine z_ldk (ok := q_isI) (n := 2) (ck_at dt_atom 156 rfl) rfl rfl (fun _ => rfl) rfl rfl ?_
    exact z_retI (ck_at dt_atom 157 rfl) rt_atom w
  · intro q; have w := w.2 q
    refine z_ldk (ok := q_isI) (n := 3) (ck_at dt_atom 98 rfl) rfl rfl (fun _ => rfl) rfl rfl ?_
    refine z_op (ck_at dt_atom 99 rfl) rfl (o_bipush _ (by decide)) ?_
    refine z_icmp (t := 199) (ck_at dt_atom 100 rfl) rfl p1 ⟨by decide, by decide⟩ ?_ ?_
    · intro q; have w := w.1 q
      exact z_wk (r_atom_199_ok hm w) ⟨rfl, ⟨rfl, ⟨rfl, trivial⟩⟩⟩
    · intro q; have w := w.2 q
      obtain ⟨p2, p3, w⟩ := w
      refine z_ldk (ok := q_isA) (n := 0) (ck_at dt_atom 101 rfl) rfl rfl (fun _ => rfl) rfl rfl ?_
      refine z_ldk (ok := q_isA) (n := 0) (ck_at dt_atom 102 rfl) rfl rfl (fun _ => rfl) rfl rfl ?_
      refine z_getR (j := 23) (a := 18) (ck_at dt_atom 103 rfl) own_atom (mf_at 19 rfl) (by decide) rfl rfl ?_
      refine z_ldk (ok := q_isI) (n := 2) (ck_at dt_atom 104 rfl) rfl rfl (fun _ => rfl) rfl rfl ?_
      refine z_iald (j := 23) (n := 3000) (ck_at dt_atom 105 rfl) rfl rfl rfl p2 p3 ?_
      refine z_ldk (ok := q_isI) (n := 3) (ck_at dt_atom 106 rfl) rfl rfl (fun _ => rfl) rfl rfl ?_
      refine z_virt (k' := k_include) (n := 0) (as := [iv (B 23 x2), iv x3]) (r := []) (ck_at dt_atom 107 rfl) own_atom (mm_at 19 rfl) vk_include rfl nl_include rfl rfl rfl rfl ?_
      exact w.mono (Nat.le_refl _) (fun o B' ⟨ho, w⟩ => ⟨none, ho, z_wk (r_atom_199_ok hm w) ⟨rfl, ⟨rfl, ⟨rfl, trivial⟩⟩⟩⟩)
def r_atom_166 (m : Nat) (h0 : qH) (d : Nat) (x1 x2 s1 s2 : Int) (B : qB) (Q : qO → qB → Prop) : Prop := 0 ≤ s1 ∧ s1 < 3000 ∧ R32 x1 ∧ (¬ x1 = 46 → (¬ x1 = 92 → (¬ x1 = 91 → 0 ≤ x2 ∧ x2 < 3000 ∧ qZ m h0 d k_include 0 [some (.ref m), some (iv ((u2 B 23 s1 s2) 23 x2)), some (iv x1)] [] (u2 B 23 s1 s2) (fun o B' => o = .inl none ∧ r_atom_277 m h0 d x2 B' Q)) ∧ (x1 = 91 → 0 ≤ x2 ∧ x2 < 3000 ∧ qZ m h0 d k_many 0 [some (.ref m), some (iv ((u2 B 23 s1 s2) 23 x2)), none, none, none, none, none, none] [] (u2 B 23 s1 s2) (fun o B' => o = .inl none ∧ r_atom_263 m h0 d x2 B' Q))) ∧ (x1 = 92 → 0 ≤ x2 ∧ x2 < 3000 ∧ qZ m h0 d k_escape 0 [some (.ref m), some (iv ((u2 B 23 s1 s2) 23 x2)), none, none] [] (u2 (u2 B 23 s1 s2) 33 0 ((B 33 0) + 1)) (fun o B' => o = .inl none ∧ r_atom_244 m h0 d x2 B' Q))) ∧ (x1 = 46 → qZ m h0 (d + 1) k_atom 175 [some (.ref m), none, some (iv x2), some (iv 0)] [] (u2 B 23 s1 s2) Q)
theorem r_atom_166_ok {m : Nat} {h0 : qH} {d : Nat} {x1 x2 s1 s2 : Int} {B : qB} {Q : qO → qB → Prop} (hm : m + 100 < 1000000000) (w : r_atom_166 m h0 d x1 x2 s1 s2 B Q) : qZ m h0 (d + 1) k_atom 166 [some (.ref m), some (iv x1), some (iv x2), none] [iv s2, iv s1, .ref (m + 1 + 18)] B Q := by
  unfold r_atom_166 at w
  obtain ⟨p1, p2, p3, w⟩ := w
  refine z_iast (j := 23) (n := 3000) hm (ck_at dt_atom 89 rfl) rfl rfl rfl p1 p2 ?_
  refine z_ldk (ok := q_isI) (n := 1) (ck_at dt_atom 90 rfl) rfl rfl (fun _ => rfl) rfl rfl ?_
  refine z_op (ck_at dt_atom 91 rfl) rfl (o_bipush _ (by decide)) ?_
  refine z_icmp (t := 218) (ck_at dt_atom 92 rfl) rfl p3 ⟨by decide, by decide⟩ ?_ ?_
  · intro q; have w := w.1 q
    refine z_ldk (ok := q_isI) (n := 1) (ck_at dt_atom 117 rfl) rfl rfl (fun _ => rfl) rfl rfl ?_
    refine z_op (ck_at dt_atom 118 rfl) rfl (o_bipush _ (by decide)) ?_
    refine z_icmp (t := 247) (ck_at dt_atom 119 rfl) rfl p3 ⟨by decide, by decide⟩ ?_ ?_
    · intro q; have w := w.1 q
      refine z_ldk (ok := q_isI) (n := 1) (ck_at dt_atom 133 rfl) rfl rfl (fun _ => rfl) rfl rfl ?_
      refine z_op (ck_at dt_atom 134 rfl) rfl (o_bipush _ (by decide)) ?_
      refine z_icmp (t := 266) (ck_at dt_atom 135 rfl) rfl p3 ⟨by decide, by decide⟩ ?_ ?_
      · intro q; have w := w.1 q
        obtain ⟨p4, p5, w⟩ := w
        refine z_ldk (ok := q_isA) (n := 0) (ck_at dt_atom 143 rfl) rfl rfl (fun _ => rfl) rfl rfl ?_
        refine z_ldk (ok := q_isA) (n := 0) (ck_at dt_atom 144 rfl) rfl rfl (fun _ => rfl) rfl rfl ?_
        refine z_getR (j := 23) (a := 18) (ck_at dt_atom 145 rfl) own_atom (mf_at 19 rfl) (by decide) rfl rfl ?_
        refine z_ldk (ok := q_isI) (n := 2) (ck_at dt_atom 146 rfl) rfl rfl (fun _ => rfl) rfl rfl ?_
        refine z_iald (j := 23) (n := 3000) (ck_at dt_atom 147 rfl) rfl rfl rfl p4 p5 ?_
        refine z_ldk (ok := q_isI) (n := 1) (ck_at dt_atom 148 rfl) rfl rfl (fun _ => rfl) rfl rfl ?_
        refine z_virt (k' := k_include) (n := 0) (as := [iv ((u2 B 23 s1 s2) 23 x2), iv x1]) (r := []) (ck_at dt_atom 149 rfl) own_atom (mm_at 19 rfl) vk_include rfl nl_include rfl rfl rfl rfl ?_
        exact w.mono (Nat.le_refl _) (fun o B' ⟨ho, w⟩ => ⟨none, ho, z_wk (r_atom_277_ok hm w) ⟨rfl, ⟨rfl, trivial⟩⟩⟩)
      · intro q; have w := w.2 q
        obtain ⟨p6, p7, w⟩ := w
        refine z_ldk (ok := q_isA) (n := 0) (ck_at dt_atom 136 rfl) rfl rfl (fun _ => rfl) rfl rfl ?_
        refine z_ldk (ok := q_isA) (n := 0) (ck_at dt_atom 137 rfl) rfl rfl (fun _ => rfl) rfl rfl ?_
        refine z_getR (j := 23) (a := 18) (ck_at dt_atom 138 rfl) own_atom (mf_at 19 rfl) (by decide) rfl rfl ?_
        refine z_ldk (ok := q_isI) (n := 2) (ck_at dt_atom 139 rfl) rfl rfl (fun _ => rfl) rfl rfl ?_
        refine z_iald (j := 23) (n := 3000) (ck_at dt_atom 140 rfl) rfl rfl rfl p6 p7 ?_
        refine z_virt (k' := k_many) (n := 6) (as := [iv ((u2 B 23 s1 s2) 23 x2)]) (r := []) (ck_at dt_atom 141 rfl) own_atom (mm_at 21 rfl) vk_many rfl nl_many rfl rfl rfl rfl ?_
        exact w.mono (Nat.le_refl _) (fun o B' ⟨ho, w⟩ => ⟨none, ho, z_wk (r_atom_263_ok hm w) ⟨rfl, trivial⟩⟩)
    · intro q; have w := w.2 q
      obtain ⟨p8, p9, w⟩ := w
      refine z_ldk (ok := q_isA) (n := 0) (ck_at dt_atom 120 rfl) rfl rfl (fun _ => rfl) rfl rfl ?_
      refine z_op (ck_at dt_atom 121 rfl) rfl rfl ?_
      refine z_getI (j := 33) (ck_at dt_atom 122 rfl) own_atom (mf_at 57 rfl) (by decide) rfl ?_
      refine z_op (ck_at dt_atom 123 rfl) rfl (o_const _) ?_
      refine z_op (ck_at dt_atom 124 rfl) rfl o_iadd ?_
      refine z_putI (j := 33) hm (ck_at dt_atom 125 rfl) own_atom (mf_at 57 rfl) (by decide) rfl rfl rfl ?_
      refine z_ldk (ok := q_isA) (n := 0) (ck_at dt_atom 126 rfl) rfl rfl (fun _ => rfl) rfl rfl ?_
      refine z_ldk (ok := q_isA) (n := 0) (ck_at dt_atom 127 rfl) rfl rfl (fun _ => rfl) rfl rfl ?_
      refine z_getR (j := 23) (a := 18) (ck_at dt_atom 128 rfl) own_atom (mf_at 19 rfl) (by decide) rfl rfl ?_
      refine z_ldk (ok := q_isI) (n := 2) (ck_at dt_atom 129 rfl) rfl rfl (fun _ => rfl) rfl rfl ?_
      refine z_iald (j := 23) (n := 3000) (ck_at dt_atom 130 rfl) rfl rfl rfl p8 p9 ?_
      refine z_virt (k' := k_escape) (n := 2) (as := [iv ((u2 B 23 s1 s2) 23 x2)]) (r := []) (ck_at dt_atom 131 rfl) own_atom (mm_at 20 rfl) vk_escape rfl nl_escape rfl rfl rfl rfl ?_
      exact w.mono (Nat.le_refl _) (fun o B' ⟨ho, w⟩ => ⟨none, ho, z_wk (r_atom_244_ok hm w) ⟨rfl, trivial⟩⟩)
  · intro q; have w := w.2 q
    refine z_op (ck_at dt_atom 93 rfl) rfl (o_const _) ?_
    refine z_st1 (ok := q_isI) (n := 3) (L' := [some (.ref m), some (iv x1), some (iv x2), some (iv 0)]) (ck_at dt_atom 94 rfl) rfl (fun _ => rfl) (fun _ _ => rfl) rfl nl_atom (by decide) rfl rfl ?_
    exact z_wk w ⟨rfl, ⟨rfl, ⟨rfl, trivial⟩⟩⟩
def r_atom_156 (m : Nat) (h0 : qH) (d : Nat) (x1 s0 : Int) (B : qB) (Q : qO → qB → Prop) : Prop := qZ m h0 d k_newSet 0 [some (.ref m), none] [] B (fun o B' => ∃ v : Int, o = .inl (some (iv v)) ∧ r_atom_166 m h0 d x1 s0 s0 v B' Q)
theorem r_atom_156_ok {m : Nat} {h0 : qH} {d : Nat} {x1 s0 : Int} {B : qB} {Q : qO → qB → Prop} (hm : m + 100 < 1000000000) (w : r_atom_156 m h0 d x1 s0 B Q) : qZ m h0 (d + 1) k_atom 156 [some (.ref m), some (iv x1), none, none] [iv s0] B Q := by
  unfold r_atom_156 at w
  refine z_st1 (ok := q_isI) (n := 2) (L' := [some (.ref m), some (iv x1), some (iv s0), none]) (ck_at dt_atom 83 rfl) rfl (fun _ => rfl) (fun _ _ => rfl) rfl nl_atom (by decide) rfl rfl ?_
  refine z_ldk (ok := q_isA) (n := 0) (ck_at dt_atom 84 rfl) rfl rfl (fun _ => rfl) rfl rfl ?_
  refine z_getR (j := 23) (a := 18) (ck_at dt_atom 85 rfl) own_atom (mf_at 19 rfl) (by decide) rfl rfl ?_
  refine z_ldk (ok := q_isI) (n := 2) (ck_at dt_atom 86 rfl) rfl rfl (fun _ => rfl) rfl rfl ?_
  refine z_ldk (ok := q_isA) (n := 0) (ck_at dt_atom 87 rfl) rfl rfl (fun _ => rfl) rfl rfl ?_
  refine z_virt (k' := k_newSet) (n := 1) (as := []) (r := [iv s0, .ref (m + 1 + 18)]) (ck_at dt_atom 88 rfl) own_atom (mm_at 18 rfl) vk_newSet rfl nl_newSet rfl rfl rfl rfl ?_
  exact w.mono (Nat.le_refl _) (fun o B' ⟨v, ho, w⟩ => ⟨some (iv v), ho, z_wk (r_atom_166_ok hm w) ⟨rfl, ⟨rfl, ⟨rfl, trivial⟩⟩⟩⟩)
def r_atom_151 (m : Nat) (h0 : qH) (d : Nat) (x1 : Int) (B : qB) (Q : qO → qB → Prop) : Prop := qZ m h0 d k_single 0 [some (.ref m), some (iv 0), none] [] B (fun o B' => ∃ v : Int, o = .inl (some (iv v)) ∧ r_atom_156 m h0 d x1 v B' Q)
theorem r_atom_151_ok {m : Nat} {h0 : qH} {d : Nat} {x1 : Int} {B : qB} {Q : qO → qB → Prop} (hm : m + 100 < 1000000000) (w : r_atom_151 m h0 d x1 B Q) : qZ m h0 (d + 1) k_atom 151 [some (.ref m), some (iv x1), none, none] [] B Q := by
  unfold r_atom_151 at w
  refine z_ldk (ok := q_isA) (n := 0) (ck_at dt_atom 80 rfl) rfl rfl (fun _ => rfl) rfl rfl ?_
  refine z_op (ck_at dt_atom 81 rfl) rfl (o_const _) ?_
  refine z_virt (k' := k_single) (n := 1) (as := [iv 0]) (r := []) (ck_at dt_atom 82 rfl) own_atom (mm_at 17 rfl) vk_single rfl nl_single rfl rfl rfl rfl ?_
  exact w.mono (Nat.le_refl _) (fun o B' ⟨v, ho, w⟩ => ⟨some (iv v), ho, z_wk (r_atom_156_ok hm w) ⟨rfl, ⟨rfl, trivial⟩⟩⟩)
def r_atom_150 (m : Nat) (h0 : qH) (d : Nat) (s0 : Int) (B : qB) (Q : qO → qB → Prop) : Prop := Q (.inl (some (iv s0))) B
theorem r_atom_150_ok {m : Nat} {h0 : qH} {d : Nat} {s0 : Int} {B : qB} {Q : qO → qB → Prop} (hm : m + 100 < 1000000000) (w : r_atom_150 m h0 d s0 B Q) : qZ m h0 (d + 1) k_atom 150 [none, none, none, none] [iv s0] B Q := by
  unfold r_atom_150 at w
  exact z_retI (ck_at dt_atom 79 rfl) rt_atom w
def r_atom_147 (m : Nat) (h0 : qH) (d : Nat) (s1 : Int) (B : qB) (Q : qO → qB → Prop) : Prop := qZ m h0 d k_single 0 [some (.ref m), some (iv s1), none] [] B (fun o B' => ∃ v : Int, o = .inl (some (iv v)) ∧ r_atom_150 m h0 d v B' Q)
theorem r_atom_147_ok {m : Nat} {h0 : qH} {d : Nat} {s1 : Int} {B : qB} {Q : qO → qB → Prop} (hm : m + 100 < 1000000000) (w : r_atom_147 m h0 d s1 B Q) : qZ m h0 (d + 1) k_atom 147 [none, none, none, none] [iv s1, .ref m] B Q := by
  unfold r_atom_147 at w
  refine z_virt (k' := k_single) (n := 1) (as := [iv s1]) (r := []) (ck_at dt_atom 78 rfl) own_atom (mm_at 17 rfl) vk_single rfl nl_single rfl rfl rfl rfl ?_
  exact w.mono (Nat.le_refl _) (fun o B' ⟨v, ho, w⟩ => ⟨some (iv v), ho, z_wk (r_atom_150_ok hm w) trivial⟩)
def r_atom_123 (m : Nat) (h0 : qH) (d : Nat) (x2 : Int) (B : qB) (Q : qO → qB → Prop) : Prop := R32 x2 ∧ (¬ x2 = 98 → r_atom_147 m h0 d 10 (u2 B 33 0 ((B 33 0) + 2)) Q) ∧ (x2 = 98 → r_atom_147 m h0 d 9 (u2 B 33 0 ((B 33 0) + 2)) Q)
theorem r_atom_123_ok {m : Nat} {h0 : qH} {d : Nat} {x2 : Int} {B : qB} {Q : qO → qB → Prop} (hm : m + 100 < 1000000000) (w : r_atom_123 m h0 d x2 B Q) : qZ m h0 (d + 1) k_atom 123 [some (.ref m), none, some (iv x2), none] [] B Q := by
  unfold r_atom_123 at w
  obtain ⟨p1, w⟩ := w
  refine z_ldk (ok := q_isA) (n := 0) (ck_at dt_atom 65 rfl) rfl rfl (fun _ => rfl) rfl rfl ?_
  refine z_op (ck_at dt_atom 66 rfl) rfl rfl ?_
  refine z_getI (j := 33) (ck_at dt_atom 67 rfl) own_atom (mf_at 57 rfl) (by decide) rfl ?_
  refine z_op (ck_at dt_atom 68 rfl) rfl (o_const _) ?_
  refine z_op (ck_at dt_atom 69 rfl) rfl o_iadd ?_
  refine z_putI (j := 33) hm (ck_at dt_atom 70 rfl) own_atom (mf_at 57 rfl) (by decide) rfl rfl rfl ?_
  refine z_ldk (ok := q_isA) (n := 0) (ck_at dt_atom 71 rfl) rfl rfl (fun _ => rfl) rfl rfl ?_
  refine z_ldk (ok := q_isI) (n := 2) (ck_at dt_atom 72 rfl) rfl rfl (fun _ => rfl) rfl rfl ?_
  refine z_op (ck_at dt_atom 73 rfl) rfl (o_bipush _ (by decide)) ?_
  refine z_icmp (t := 145) (ck_at dt_atom 74 rfl) rfl p1 ⟨by decide, by decide⟩ ?_ ?_
  · intro q; have w := w.1 q
    refine z_op (ck_at dt_atom 77 rfl) rfl (o_bipush _ (by decide)) ?_
    exact z_wk (r_atom_147_ok hm w) trivial
  · intro q; have w := w.2 q
    refine z_op (ck_at dt_atom 75 rfl) rfl (o_bipush _ (by decide)) ?_
    refine z_goto (t := 147) (ck_at dt_atom 76 rfl) rfl ?_
    exact z_wk (r_atom_147_ok hm w) trivial
def r_atom_110 (m : Nat) (h0 : qH) (d : Nat) (x1 s0 : Int) (B : qB) (Q : qO → qB → Prop) : Prop := R32 s0 ∧ (s0 = 98 → r_atom_123 m h0 d s0 B Q) ∧ (¬ s0 = 98 → (¬ s0 = 66 → r_atom_151 m h0 d x1 B Q) ∧ (s0 = 66 → r_atom_123 m h0 d s0 B Q))
theorem r_atom_110_ok {m : Nat} {h0 : qH} {d : Nat} {x1 s0 : Int} {B : qB} {Q : qO → qB → Prop} (hm : m + 100 < 1000000000) (w : r_atom_110 m h0 d x1 s0 B Q) : qZ m h0 (d + 1) k_atom 110 [some (.ref m), some (iv x1), none, none] [iv s0] B Q := by
  unfold r_atom_110 at w
  obtain ⟨p1, w⟩ := w
  refine z_st1 (ok := q_isI) (n := 2) (L' := [some (.ref m), some (iv x1), some (iv s0), none]) (ck_at dt_atom 58 rfl) rfl (fun _ => rfl) (fun _ _ => rfl) rfl nl_atom (by decide) rfl rfl ?_
  refine z_ldk (ok := q_isI) (n := 2) (ck_at dt_atom 59 rfl) rfl rfl (fun _ => rfl) rfl rfl ?_
  refine z_op (ck_at dt_atom 60 rfl) rfl (o_bipush _ (by decide)) ?_
  refine z_icmp (t := 123) (ck_at dt_atom 61 rfl) rfl p1 ⟨by decide, by decide⟩ ?_ ?_
  · intro q; have w := w.1 q
    exact z_wk (r_atom_123_ok hm w) ⟨rfl, ⟨rfl, trivial⟩⟩
  · intro q; have w := w.2 q
    refine z_ldk (ok := q_isI) (n := 2) (ck_at dt_atom 62 rfl) rfl rfl (fun _ => rfl) rfl rfl ?_
    refine z_op (ck_at dt_atom 63 rfl) rfl (o_bipush _ (by decide)) ?_
    refine z_icmp (t := 151) (ck_at dt_atom 64 rfl) rfl p1 ⟨by decide, by decide⟩ ?_ ?_
    · intro q; have w := w.1 q
      exact z_wk (r_atom_151_ok hm w) ⟨rfl, ⟨rfl, trivial⟩⟩
    · intro q; have w := w.2 q
      exact z_wk (r_atom_123_ok hm w) ⟨rfl, ⟨rfl, trivial⟩⟩
def r_atom_93 (m : Nat) (h0 : qH) (d : Nat) (s0 : Int) (B : qB) (Q : qO → qB → Prop) : Prop := Q (.inl (some (iv s0))) B
theorem r_atom_93_ok {m : Nat} {h0 : qH} {d : Nat} {s0 : Int} {B : qB} {Q : qO → qB → Prop} (hm : m + 100 < 1000000000) (w : r_atom_93 m h0 d s0 B Q) : qZ m h0 (d + 1) k_atom 93 [none, none, none, none] [iv s0] B Q := by
  unfold r_atom_93 at w
  exact z_retI (ck_at dt_atom 48 rfl) rt_atom w
def r_atom_90 (m : Nat) (h0 : qH) (d : Nat) (s1 : Int) (B : qB) (Q : qO → qB → Prop) : Prop := qZ m h0 d k_single 0 [some (.ref m), some (iv s1), none] [] B (fun o B' => ∃ v : Int, o = .inl (some (iv v)) ∧ r_atom_93 m h0 d v B' Q)
theorem r_atom_90_ok {m : Nat} {h0 : qH} {d : Nat} {s1 : Int} {B : qB} {Q : qO → qB → Prop} (hm : m + 100 < 1000000000) (w : r_atom_90 m h0 d s1 B Q) : qZ m h0 (d + 1) k_atom 90 [none, none, none, none] [iv s1, .ref m] B Q := by
  unfold r_atom_90 at w
  refine z_virt (k' := k_single) (n := 1) (as := [iv s1]) (r := []) (ck_at dt_atom 47 rfl) own_atom (mm_at 17 rfl) vk_single rfl nl_single rfl rfl rfl rfl ?_
  exact w.mono (Nat.le_refl _) (fun o B' ⟨v, ho, w⟩ => ⟨some (iv v), ho, z_wk (r_atom_93_ok hm w) trivial⟩)
def r_atom_66 (m : Nat) (h0 : qH) (d : Nat) (x1 : Int) (B : qB) (Q : qO → qB → Prop) : Prop := R32 x1 ∧ (¬ x1 = 94 → r_atom_90 m h0 d 8 (u2 B 33 0 ((B 33 0) + 1)) Q) ∧ (x1 = 94 → r_atom_90 m h0 d 7 (u2 B 33 0 ((B 33 0) + 1)) Q)
theorem r_atom_66_ok {m : Nat} {h0 : qH} {d : Nat} {x1 : Int} {B : qB} {Q : qO → qB → Prop} (hm : m + 100 < 1000000000) (w : r_atom_66 m h0 d x1 B Q) : qZ m h0 (d + 1) k_atom 66 [some (.ref m), some (iv x1), none, none] [] B Q := by
  unfold r_atom_66 at w
  obtain ⟨p1, w⟩ := w
  refine z_ldk (ok := q_isA) (n := 0) (ck_at dt_atom 34 rfl) rfl rfl (fun _ => rfl) rfl rfl ?_
  refine z_op (ck_at dt_atom 35 rfl) rfl rfl ?_
  refine z_getI (j := 33) (ck_at dt_atom 36 rfl) own_atom (mf_at 57 rfl) (by decide) rfl ?_
  refine z_op (ck_at dt_atom 37 rfl) rfl (o_const _) ?_
  refine z_op (ck_at dt_atom 38 rfl) rfl o_iadd ?_
  refine z_putI (j := 33) hm (ck_at dt_atom 39 rfl) own_atom (mf_at 57 rfl) (by decide) rfl rfl rfl ?_
  refine z_ldk (ok := q_isA) (n := 0) (ck_at dt_atom 40 rfl) rfl rfl (fun _ => rfl) rfl rfl ?_
  refine z_ldk (ok := q_isI) (n := 1) (ck_at dt_atom 41 rfl) rfl rfl (fun _ => rfl) rfl rfl ?_
  refine z_op (ck_at dt_atom 42 rfl) rfl (o_bipush _ (by decide)) ?_
  refine z_icmp (t := 88) (ck_at dt_atom 43 rfl) rfl p1 ⟨by decide, by decide⟩ ?_ ?_
  · intro q; have w := w.1 q
    refine z_op (ck_at dt_atom 46 rfl) rfl (o_bipush _ (by decide)) ?_
    exact z_wk (r_atom_90_ok hm w) trivial
  · intro q; have w := w.2 q
    refine z_op (ck_at dt_atom 44 rfl) rfl (o_bipush _ (by decide)) ?_
    refine z_goto (t := 90) (ck_at dt_atom 45 rfl) rfl ?_
    exact z_wk (r_atom_90_ok hm w) trivial
def r_atom_53 (m : Nat) (h0 : qH) (d : Nat) (s0 : Int) (B : qB) (Q : qO → qB → Prop) : Prop := Q (.inl (some (iv s0))) B
theorem r_atom_53_ok {m : Nat} {h0 : qH} {d : Nat} {s0 : Int} {B : qB} {Q : qO → qB → Prop} (hm : m + 100 < 1000000000) (w : r_atom_53 m h0 d s0 B Q) : qZ m h0 (d + 1) k_atom 53 [none, none, none, none] [iv s0] B Q := by
  unfold r_atom_53 at w
  exact z_retI (ck_at dt_atom 27 rfl) rt_atom w
def r_atom_45 (m : Nat) (h0 : qH) (d : Nat) (B : qB) (Q : qO → qB → Prop) : Prop := qZ m h0 d k_wrong 0 [some (.ref m), some (iv (B 33 0))] [] B (fun o B' => ∃ v : Int, o = .inl (some (iv v)) ∧ r_atom_53 m h0 d v B' Q)
theorem r_atom_45_ok {m : Nat} {h0 : qH} {d : Nat} {B : qB} {Q : qO → qB → Prop} (hm : m + 100 < 1000000000) (w : r_atom_45 m h0 d B Q) : qZ m h0 (d + 1) k_atom 45 [some (.ref m), none, none, none] [] B Q := by
  unfold r_atom_45 at w
  refine z_ldk (ok := q_isA) (n := 0) (ck_at dt_atom 23 rfl) rfl rfl (fun _ => rfl) rfl rfl ?_
  refine z_ldk (ok := q_isA) (n := 0) (ck_at dt_atom 24 rfl) rfl rfl (fun _ => rfl) rfl rfl ?_
  refine z_getI (j := 33) (ck_at dt_atom 25 rfl) own_atom (mf_at 57 rfl) (by decide) rfl ?_
  refine z_virt (k' := k_wrong) (n := 0) (as := [iv (B 33 0)]) (r := []) (ck_at dt_atom 26 rfl) own_atom (mm_at 14 rfl) vk_wrong rfl nl_wrong rfl rfl rfl rfl ?_
  exact w.mono (Nat.le_refl _) (fun o B' ⟨v, ho, w⟩ => ⟨some (iv v), ho, z_wk (r_atom_53_ok hm w) trivial⟩)
def r_atom_8 (m : Nat) (h0 : qH) (d : Nat) (s0 : Int) (B : qB) (Q : qO → qB → Prop) : Prop := R32 s0 ∧ (s0 < 32 → r_atom_45 m h0 d B Q) ∧ (s0 ≥ 32 → (s0 > 126 → r_atom_45 m h0 d B Q) ∧ (s0 ≤ 126 → (s0 = 42 → r_atom_45 m h0 d B Q) ∧ (¬ s0 = 42 → (s0 = 43 → r_atom_45 m h0 d B Q) ∧ (¬ s0 = 43 → (s0 = 63 → r_atom_45 m h0 d B Q) ∧ (¬ s0 = 63 → (¬ s0 = 123 → (s0 = 94 → r_atom_66 m h0 d s0 B Q) ∧ (¬ s0 = 94 → (¬ s0 = 36 → (¬ s0 = 92 → r_atom_151 m h0 d s0 B Q) ∧ (s0 = 92 → qZ m h0 d k_signAt 0 [some (.ref m), some (iv ((B 33 0) + 1))] [] B (fun o B' => ∃ v : Int, o = .inl (some (iv v)) ∧ r_atom_110 m h0 d s0 v B' Q))) ∧ (s0 = 36 → r_atom_66 m h0 d s0 B Q))) ∧ (s0 = 123 → r_atom_45 m h0 d B Q))))))
theorem r_atom_8_ok {m : Nat} {h0 : qH} {d : Nat} {s0 : Int} {B : qB} {Q : qO → qB → Prop} (hm : m + 100 < 1000000000) (w : r_atom_8 m h0 d s0 B Q) : qZ m h0 (d + 1) k_atom 8 [some (.ref m), none, none, none] [iv s0] B Q := by
  unfold r_atom_8 at w
  obtain ⟨p1, w⟩ := w
  refine z_st1 (ok := q_isI) (n := 1) (L' := [some (.ref m), some (iv s0), none, none]) (ck_at dt_atom 4 rfl) rfl (fun _ => rfl) (fun _ _ => rfl) rfl nl_atom (by decide) rfl rfl ?_
  refine z_ldk (ok := q_isI) (n := 1) (ck_at dt_atom 5 rfl) rfl rfl (fun _ => rfl) rfl rfl ?_
  refine z_op (ck_at dt_atom 6 rfl) rfl (o_bipush _ (by decide)) ?_
  refine z_icmp (t := 45) (ck_at dt_atom 7 rfl) rfl p1 ⟨by decide, by decide⟩ ?_ ?_
  · intro q; have w := w.1 q
    exact z_wk (r_atom_45_ok hm w) ⟨rfl, trivial⟩
  · intro q; have w := w.2 q
    refine z_ldk (ok := q_isI) (n := 1) (ck_at dt_atom 8 rfl) rfl rfl (fun _ => rfl) rfl rfl ?_
    refine z_op (ck_at dt_atom 9 rfl) rfl (o_bipush _ (by decide)) ?_
    refine z_icmp (t := 45) (ck_at dt_atom 10 rfl) rfl p1 ⟨by decide, by decide⟩ ?_ ?_
    · intro q; have w := w.1 q
      exact z_wk (r_atom_45_ok hm w) ⟨rfl, trivial⟩
    · intro q; have w := w.2 q
      refine z_ldk (ok := q_isI) (n := 1) (ck_at dt_atom 11 rfl) rfl rfl (fun _ => rfl) rfl rfl ?_
      refine z_op (ck_at dt_atom 12 rfl) rfl (o_bipush _ (by decide)) ?_
      refine z_icmp (t := 45) (ck_at dt_atom 13 rfl) rfl p1 ⟨by decide, by decide⟩ ?_ ?_
      · intro q; have w := w.1 q
        exact z_wk (r_atom_45_ok hm w) ⟨rfl, trivial⟩
      · intro q; have w := w.2 q
        refine z_ldk (ok := q_isI) (n := 1) (ck_at dt_atom 14 rfl) rfl rfl (fun _ => rfl) rfl rfl ?_
        refine z_op (ck_at dt_atom 15 rfl) rfl (o_bipush _ (by decide)) ?_
        refine z_icmp (t := 45) (ck_at dt_atom 16 rfl) rfl p1 ⟨by decide, by decide⟩ ?_ ?_
        · intro q; have w := w.1 q
          exact z_wk (r_atom_45_ok hm w) ⟨rfl, trivial⟩
        · intro q; have w := w.2 q
          refine z_ldk (ok := q_isI) (n := 1) (ck_at dt_atom 17 rfl) rfl rfl (fun _ => rfl) rfl rfl ?_
          refine z_op (ck_at dt_atom 18 rfl) rfl (o_bipush _ (by decide)) ?_
          refine z_icmp (t := 45) (ck_at dt_atom 19 rfl) rfl p1 ⟨by decide, by decide⟩ ?_ ?_
          · intro q; have w := w.1 q
            exact z_wk (r_atom_45_ok hm w) ⟨rfl, trivial⟩
          · intro q; have w := w.2 q
            refine z_ldk (ok := q_isI) (n := 1) (ck_at dt_atom 20 rfl) rfl rfl (fun _ => rfl) rfl rfl ?_
            refine z_op (ck_at dt_atom 21 rfl) rfl (o_bipush _ (by decide)) ?_
            refine z_icmp (t := 54) (ck_at dt_atom 22 rfl) rfl p1 ⟨by decide, by decide⟩ ?_ ?_
            · intro q; have w := w.1 q
              refine z_ldk (ok := q_isI) (n := 1) (ck_at dt_atom 28 rfl) rfl rfl (fun _ => rfl) rfl rfl ?_
              refine z_op (ck_at dt_atom 29 rfl) rfl (o_bipush _ (by decide)) ?_
              refine z_icmp (t := 66) (ck_at dt_atom 30 rfl) rfl p1 ⟨by decide, by decide⟩ ?_ ?_
              · intro q; have w := w.1 q
                exact z_wk (r_atom_66_ok hm w) ⟨rfl, ⟨rfl, trivial⟩⟩
              · intro q; have w := w.2 q
                refine z_ldk (ok := q_isI) (n := 1) (ck_at dt_atom 31 rfl) rfl rfl (fun _ => rfl) rfl rfl ?_
                refine z_op (ck_at dt_atom 32 rfl) rfl (o_bipush _ (by decide)) ?_
                refine z_icmp (t := 94) (ck_at dt_atom 33 rfl) rfl p1 ⟨by decide, by decide⟩ ?_ ?_
                · intro q; have w := w.1 q
                  refine z_ldk (ok := q_isI) (n := 1) (ck_at dt_atom 49 rfl) rfl rfl (fun _ => rfl) rfl rfl ?_
                  refine z_op (ck_at dt_atom 50 rfl) rfl (o_bipush _ (by decide)) ?_
                  refine z_icmp (t := 151) (ck_at dt_atom 51 rfl) rfl p1 ⟨by decide, by decide⟩ ?_ ?_
                  · intro q; have w := w.1 q
                    exact z_wk (r_atom_151_ok hm w) ⟨rfl, ⟨rfl, trivial⟩⟩
                  · intro q; have w := w.2 q
                    refine z_ldk (ok := q_isA) (n := 0) (ck_at dt_atom 52 rfl) rfl rfl (fun _ => rfl) rfl rfl ?_
                    refine z_ldk (ok := q_isA) (n := 0) (ck_at dt_atom 53 rfl) rfl rfl (fun _ => rfl) rfl rfl ?_
                    refine z_getI (j := 33) (ck_at dt_atom 54 rfl) own_atom (mf_at 57 rfl) (by decide) rfl ?_
                    refine z_op (ck_at dt_atom 55 rfl) rfl (o_const _) ?_
                    refine z_op (ck_at dt_atom 56 rfl) rfl o_iadd ?_
                    refine z_virt (k' := k_signAt) (n := 0) (as := [iv ((B 33 0) + 1)]) (r := []) (ck_at dt_atom 57 rfl) own_atom (mm_at 6 rfl) vk_signAt rfl nl_signAt rfl rfl rfl rfl ?_
                    exact w.mono (Nat.le_refl _) (fun o B' ⟨v, ho, w⟩ => ⟨some (iv v), ho, z_wk (r_atom_110_ok hm w) ⟨rfl, ⟨rfl, trivial⟩⟩⟩)
                · intro q; have w := w.2 q
                  exact z_wk (r_atom_66_ok hm w) ⟨rfl, ⟨rfl, trivial⟩⟩
            · intro q; have w := w.2 q
              exact z_wk (r_atom_45_ok hm w) ⟨rfl, trivial⟩
def r_atom_0 (m : Nat) (h0 : qH) (d : Nat) (B : qB) (Q : qO → qB → Prop) : Prop := qZ m h0 d k_signAt 0 [some (.ref m), some (iv (B 33 0))] [] B (fun o B' => ∃ v : Int, o = .inl (some (iv v)) ∧ r_atom_8 m h0 d v B' Q)
theorem r_atom_0_ok {m : Nat} {h0 : qH} {d : Nat} {B : qB} {Q : qO → qB → Prop} (hm : m + 100 < 1000000000) (w : r_atom_0 m h0 d B Q) : qZ m h0 (d + 1) k_atom 0 [some (.ref m), none, none, none] [] B Q := by
  unfold r_atom_0 at w
  refine z_ldk (ok := q_isA) (n := 0) (ck_at dt_atom 0 rfl) rfl rfl (fun _ => rfl) rfl rfl ?_
  refine z_ldk (ok := q_isA) (n := 0) (ck_at dt_atom 1 rfl) rfl rfl (fun _ => rfl) rfl rfl ?_
  refine z_getI (j := 33) (ck_at dt_atom 2 rfl) own_atom (mf_at 57 rfl) (by decide) rfl ?_
  refine z_virt (k' := k_signAt) (n := 0) (as := [iv (B 33 0)]) (r := []) (ck_at dt_atom 3 rfl) own_atom (mm_at 6 rfl) vk_signAt rfl nl_signAt rfl rfl rfl rfl ?_
  exact w.mono (Nat.le_refl _) (fun o B' ⟨v, ho, w⟩ => ⟨some (iv v), ho, z_wk (r_atom_8_ok hm w) ⟨rfl, trivial⟩⟩)
/-! escape(I)V -/
def t_escape : List (Nat × Instr × Nat) := [(0, .aload_n 0, 1), (1, .aload_n 0, 1), (2, .getfield 213, 3), (5, .invokevirtual 220, 3), (8, .istore_n 2, 1), (9, .iload_n 2, 1), (10, .bipush 32, 2), (12, .if_icmp .lt 9, 3), (15, .iload_n 2, 1), (16, .bipush 126, 2), (18, .if_icmp .le 13, 3), (21, .aload_n 0, 1), (22, .aload_n 0, 1), (23, .getfield 213, 3), (26, .invokevirtual 242, 3), (29, .pop, 1), (30, .return_, 1), (31, .iload_n 2, 1), (32, .invokestatic 268, 3), (35, .ifCond .eq 35, 3), (38, .iconst 0, 1), (39, .istore_n 3, 1), (40, .iload_n 3, 1), (41, .sipush 256, 3), (44, .if_icmp .ge 23, 3), (47, .iload_n 2, 1), (48, .iload_n 3, 1), (49, .invokestatic 271, 3), (52, .ifCond .eq 9, 3), (55, .aload_n 0, 1), (56, .iload_n 1, 1), (57, .iload_n 3, 1), (58, .invokevirtual 258, 3), (61, .iinc 3 1, 3), (64, .goto (-24), 3), (67, .goto 52, 3), (70, .iload_n 2, 1), (71, .bipush 97, 2), (73, .bipush 122, 2), (75, .invokestatic 170, 3), (78, .ifCond .ne 25, 3), (81, .iload_n 2, 1), (82, .bipush 65, 2), (84, .bipush 90, 2), (86, .invokestatic 170, 3), (89, .ifCond .ne 14, 3), (92, .iload_n 2, 1), (93, .bipush 48, 2), (95, .bipush 57, 2), (97, .invokestatic 170, 3), (100, .ifCond .eq 13, 3), (103, .aload_n 0, 1), (104, .aload_n 0, 1), (105, .getfield 213, 3), (108, .invokevirtual 242, 3), (111, .pop, 1), (112, .return_, 1), (113, .aload_n 0, 1), (114, .iload_n 1, 1), (115, .iload_n 2, 1), (116, .invokevirtual 258, 3), (119, .aload_n 0, 1), (120, .dup, 1), (121, .getfield 213, 3), (124, .iconst 1, 1), (125, .iadd, 1), (126, .putfield 213, 3), (129, .return_, 1)]
set_option maxRecDepth 100000 in
theorem dt_escape : q_ck k_escape t_escape = true := by decide +kernel
def r_escape_119 (m : Nat) (h0 : qH) (d : Nat) (B : qB) (Q : qO → qB → Prop) : Prop := Q (.inl none) (u2 B 33 0 ((B 33 0) + 1))
theorem r_escape_119_ok {m : Nat} {h0 : qH} {d : Nat} {B : qB} {Q : qO → qB → Prop} (hm : m + 100 < 1000000000) (w : r_escape_119 m h0 d B Q) : qZ m h0 (d + 1) k_escape 119 [some (.ref m), none, none, none] [] B Q := by
  unfold r_escape_119 at w
  refine z_ldk (ok := q_isA) (n := 0) (ck_at dt_escape 61 rfl) rfl rfl (fun _ => rfl) rfl rfl ?_
  refine z_op (ck_at dt_escape 62 rfl) rfl rfl ?_
  refine z_getI (j := 33) (ck_at dt_escape 63 rfl) own_escape (mf_at 57 rfl) (by decide) rfl ?_
  refine z_op (ck_at dt_escape 64 rfl) rfl (o_const _) ?_
  refine z_op (ck_at dt_escape 65 rfl) rfl o_iadd ?_
  refine z_putI (j := 33) hm (ck_at dt_escape 66 rfl) own_escape (mf_at 57 rfl) (by decide) rfl rfl rfl ?_
  exact z_ret0 (ck_at dt_escape 67 rfl) rt_escape w
def r_escape_111 (m : Nat) (h0 : qH) (d : Nat) (s0 : Int) (B : qB) (Q : qO → qB → Prop) : Prop := Q (.inl none) B
theorem r_escape_111_ok {m : Nat} {h0 : qH} {d : Nat} {s0 : Int} {B : qB} {Q : qO → qB → Prop} (hm : m + 100 < 1000000000) (w : r_escape_111 m h0 d s0 B Q) : qZ m h0 (d + 1) k_escape 111 [none, none, none, none] [iv s0] B Q := by
  unfold r_escape_111 at w
  refine z_op (ck_at dt_escape 55 rfl) rfl rfl ?_
  exact z_ret0 (ck_at dt_escape 56 rfl) rt_escape w
def r_escape_103 (m : Nat) (h0 : qH) (d : Nat) (B : qB) (Q : qO → qB → Prop) : Prop := qZ m h0 d k_wrong 0 [some (.ref m), some (iv (B 33 0))] [] B (fun o B' => ∃ v : Int, o = .inl (some (iv v)) ∧ r_escape_111 m h0 d v B' Q)
theorem r_escape_103_ok {m : Nat} {h0 : qH} {d : Nat} {B : qB} {Q : qO → qB → Prop} (hm : m + 100 < 1000000000) (w : r_escape_103 m h0 d B Q) : qZ m h0 (d + 1) k_escape 103 [some (.ref m), none, none, none] [] B Q := by
  unfold r_escape_103 at w
  refine z_ldk (ok := q_isA) (n := 0) (ck_at dt_escape 51 rfl) rfl rfl (fun _ => rfl) rfl rfl ?_
  refine z_ldk (ok := q_isA) (n := 0) (ck_at dt_escape 52 rfl) rfl rfl (fun _ => rfl) rfl rfl ?_
  refine z_getI (j := 33) (ck_at dt_escape 53 rfl) own_escape (mf_at 57 rfl) (by decide) rfl ?_
  refine z_virt (k' := k_wrong) (n := 0) (as := [iv (B 33 0)]) (r := []) (ck_at dt_escape 54 rfl) own_escape (mm_at 14 rfl) vk_wrong rfl nl_wrong rfl rfl rfl rfl ?_
  exact w.mono (Nat.le_refl _) (fun o B' ⟨v, ho, w⟩ => ⟨some (iv v), ho, z_wk (r_escape_111_ok hm w) trivial⟩)
def r_escape_100 (m : Nat) (h0 : qH) (d : Nat) (x1 x2 s0 : Int) (B : qB) (Q : qO → qB → Prop) : Prop := R32 s0 ∧ (s0 = 0 → qZ m h0 d k_include 0 [some (.ref m), some (iv x1), some (iv x2)] [] B (fun o B' => o = .inl none ∧ r_escape_119 m h0 d B' Q)) ∧ (¬ s0 = 0 → r_escape_103 m h0 d B Q)
theorem r_escape_100_ok {m : Nat} {h0 : qH} {d : Nat} {x1 x2 s0 : Int} {B : qB} {Q : qO → qB → Prop} (hm : m + 100 < 1000000000) (w : r_escape_100 m h0 d x1 x2 s0 B Q) : qZ m h0 (d + 1) k_escape 100 [some (.ref m), some (iv x1), some (iv x2), none] [iv s0] B Q := by
  unfold r_escape_100 at w
  obtain ⟨p1, w⟩ := w
  refine z_ifz (t := 113) (ck_at dt_escape 50 rfl) rfl p1 ?_ ?_
  · intro q; have w := w.1 q
    refine z_ldk (ok := q_isA) (n := 0) (ck_at dt_escape 57 rfl) rfl rfl (fun _ => rfl) rfl rfl ?_
    refine z_ldk (ok := q_isI) (n := 1) (ck_at dt_escape 58 rfl) rfl rfl (fun _ => rfl) rfl rfl ?_
    refine z_ldk (ok := q_isI) (n := 2) (ck_at dt_escape 59 rfl) rfl rfl (fun _ => rfl) rfl rfl ?_
    refine z_virt (k' := k_include) (n := 0) (as := [iv x1, iv x2]) (r := []) (ck_at dt_escape 60 rfl) own_escape (mm_at 19 rfl) vk_include rfl nl_include rfl rfl rfl rfl ?_
    exact w.mono (Nat.le_refl _) (fun o B' ⟨ho, w⟩ => ⟨none, ho, z_wk (r_escape_119_ok hm w) ⟨rfl, trivial⟩⟩)
  · intro q; have w := w.2 q
    exact z_wk (r_escape_103_ok hm w) ⟨rfl, trivial⟩
def r_escape_89 (m : Nat) (h0 : qH) (d : Nat) (x1 x2 s0 : Int) (B : qB) (Q : qO → qB → Prop) : Prop := R32 s0 ∧ (¬ s0 = 0 → r_escape_103 m h0 d B Q) ∧ (s0 = 0 → qZ m h0 d k_in 0 [some (iv x2), some (iv 48), some (iv 57)] [] B (fun o B' => ∃ v : Int, o = .inl (some (iv v)) ∧ r_escape_100 m h0 d x1 x2 v B' Q))
theorem r_escape_89_ok {m : Nat} {h0 : qH} {d : Nat} {x1 x2 s0 : Int} {B : qB} {Q : qO → qB → Prop} (hm : m + 100 < 1000000000) (w : r_escape_89 m h0 d x1 x2 s0 B Q) : qZ m h0 (d + 1) k_escape 89 [some (.ref m), some (iv x1), some (iv x2), none] [iv s0] B Q := by
  unfold r_escape_89 at w
  obtain ⟨p1, w⟩ := w
  refine z_ifz (t := 103) (ck_at dt_escape 45 rfl) rfl p1 ?_ ?_
  · intro q; have w := w.1 q
    exact z_wk (r_escape_103_ok hm w) ⟨rfl, trivial⟩
  · intro q; have w := w.2 q
    refine z_ldk (ok := q_isI) (n := 2) (ck_at dt_escape 46 rfl) rfl rfl (fun _ => rfl) rfl rfl ?_
    refine z_op (ck_at dt_escape 47 rfl) rfl (o_bipush _ (by decide)) ?_
    refine z_op (ck_at dt_escape 48 rfl) rfl (o_bipush _ (by decide)) ?_
    refine z_stat (k' := k_in) (n := 0) (as := [iv x2, iv 48, iv 57]) (r := []) (ck_at dt_escape 49 rfl) own_escape (mm_at 2 rfl) (ms_at 0 rfl) vk_in rfl nl_in rfl rfl rfl rfl ?_
    exact w.mono (Nat.le_refl _) (fun o B' ⟨v, ho, w⟩ => ⟨some (iv v), ho, z_wk (r_escape_100_ok hm w) ⟨rfl, ⟨rfl, ⟨rfl, trivial⟩⟩⟩⟩)
def r_escape_78 (m : Nat) (h0 : qH) (d : Nat) (x1 x2 s0 : Int) (B : qB) (Q : qO → qB → Prop) : Prop := R32 s0 ∧ (¬ s0 = 0 → r_escape_103 m h0 d B Q) ∧ (s0 = 0 → qZ m h0 d k_in 0 [some (iv x2), some (iv 65), some (iv 90)] [] B (fun o B' => ∃ v : Int, o = .inl (some (iv v)) ∧ r_escape_89 m h0 d x1 x2 v B' Q))
theorem r_escape_78_ok {m : Nat} {h0 : qH} {d : Nat} {x1 x2 s0 : Int} {B : qB} {Q : qO → qB → Prop} (hm : m + 100 < 1000000000) (w : r_escape_78 m h0 d x1 x2 s0 B Q) : qZ m h0 (d + 1) k_escape 78 [some (.ref m), some (iv x1), some (iv x2), none] [iv s0] B Q := by
  unfold r_escape_78 at w
  obtain ⟨p1, w⟩ := w
  refine z_ifz (t := 103) (ck_at dt_escape 40 rfl) rfl p1 ?_ ?_
  · intro q; have w := w.1 q
    exact z_wk (r_escape_103_ok hm w) ⟨rfl, trivial⟩
  · intro q; have w := w.2 q
    refine z_ldk (ok := q_isI) (n := 2) (ck_at dt_escape 41 rfl) rfl rfl (fun _ => rfl) rfl rfl ?_
    refine z_op (ck_at dt_escape 42 rfl) rfl (o_bipush _ (by decide)) ?_
    refine z_op (ck_at dt_escape 43 rfl) rfl (o_bipush _ (by decide)) ?_
    refine z_stat (k' := k_in) (n := 0) (as := [iv x2, iv 65, iv 90]) (r := []) (ck_at dt_escape 44 rfl) own_escape (mm_at 2 rfl) (ms_at 0 rfl) vk_in rfl nl_in rfl rfl rfl rfl ?_
    exact w.mono (Nat.le_refl _) (fun o B' ⟨v, ho, w⟩ => ⟨some (iv v), ho, z_wk (r_escape_89_ok hm w) ⟨rfl, ⟨rfl, ⟨rfl, trivial⟩⟩⟩⟩)
def r_escape_61 (m : Nat) (h0 : qH) (d : Nat) (x1 x2 x3 : Int) (B : qB) (Q : qO → qB → Prop) : Prop := qZ m h0 (d + 1) k_escape 40 [some (.ref m), some (iv x1), some (iv x2), some (iv (x3 + 1))] [] B Q
theorem r_escape_61_ok {m : Nat} {h0 : qH} {d : Nat} {x1 x2 x3 : Int} {B : qB} {Q : qO → qB → Prop} (hm : m + 100 < 1000000000) (w : r_escape_61 m h0 d x1 x2 x3 B Q) : qZ m h0 (d + 1) k_escape 61 [some (.ref m), some (iv x1), some (iv x2), some (iv x3)] [] B Q := by
  unfold r_escape_61 at w
  refine z_iinc (n := 3) (L' := [some (.ref m), some (iv x1), some (iv x2), some (iv (x3 + 1))]) (ck_at dt_escape 33 rfl) rfl nl_escape (by decide) rfl rfl ?_
  refine z_goto (t := 40) (ck_at dt_escape 34 rfl) rfl ?_
  exact z_wk w ⟨rfl, ⟨rfl, ⟨rfl, ⟨rfl, trivial⟩⟩⟩⟩
def r_escape_52 (m : Nat) (h0 : qH) (d : Nat) (x1 x2 x3 s0 : Int) (B : qB) (Q : qO → qB → Prop) : Prop := R32 s0 ∧ (s0 = 0 → r_escape_61 m h0 d x1 x2 x3 B Q) ∧ (¬ s0 = 0 → qZ m h0 d k_include 0 [some (.ref m), some (iv x1), some (iv x3)] [] B (fun o B' => o = .inl none ∧ r_escape_61 m h0 d x1 x2 x3 B' Q))
theorem r_escape_52_ok {m : Nat} {h0 : qH} {d : Nat} {x1 x2 x3 s0 : Int} {B : qB} {Q : qO → qB → Prop} (hm : m + 100 < 1000000000) (w : r_escape_52 m h0 d x1 x2 x3 s0 B Q) : qZ m h0 (d + 1) k_escape 52 [some (.ref m), some (iv x1), some (iv x2), some (iv x3)] [iv s0] B Q := by
  unfold r_escape_52 at w
  obtain ⟨p1, w⟩ := w
  refine z_ifz (t := 61) (ck_at dt_escape 28 rfl) rfl p1 ?_ ?_
  · intro q; have w := w.1 q
    exact z_wk (r_escape_61_ok hm w) ⟨rfl, ⟨rfl, ⟨rfl, ⟨rfl, trivial⟩⟩⟩⟩
  · intro q; have w := w.2 q
    refine z_ldk (ok := q_isA) (n := 0) (ck_at dt_escape 29 rfl) rfl rfl (fun _ => rfl) rfl rfl ?_
    refine z_ldk (ok := q_isI) (n := 1) (ck_at dt_escape 30 rfl) rfl rfl (fun _ => rfl) rfl rfl ?_
    refine z_ldk (ok := q_isI) (n := 3) (ck_at dt_escape 31 rfl) rfl rfl (fun _ => rfl) rfl rfl ?_
    refine z_virt (k' := k_include) (n := 0) (as := [iv x1, iv x3]) (r := []) (ck_at dt_escape 32 rfl) own_escape (mm_at 19 rfl) vk_include rfl nl_include rfl rfl rfl rfl ?_
    exact w.mono (Nat.le_refl _) (fun o B' ⟨ho, w⟩ => ⟨none, ho, z_wk (r_escape_61_ok hm w) ⟨rfl, ⟨rfl, ⟨rfl, ⟨rfl, trivial⟩⟩⟩⟩⟩)
def r_escape_40 (m : Nat) (h0 : qH) (d : Nat) (x1 x2 x3 : Int) (B : qB) (Q : qO → qB → Prop) : Prop := R32 x3 ∧ (x3 ≥ 256 → r_escape_119 m h0 d B Q) ∧ (x3 < 256 → qZ m h0 d k_isKind 0 [some (iv x2), some (iv x3)] [] B (fun o B' => ∃ v : Int, o = .inl (some (iv v)) ∧ r_escape_52 m h0 d x1 x2 x3 v B' Q))
theorem r_escape_40_ok {m : Nat} {h0 : qH} {d : Nat} {x1 x2 x3 : Int} {B : qB} {Q : qO → qB → Prop} (hm : m + 100 < 1000000000) (w : r_escape_40 m h0 d x1 x2 x3 B Q) : qZ m h0 (d + 1) k_escape 40 [some (.ref m), some (iv x1), some (iv x2), some (iv x3)] [] B Q := by
  unfold r_escape_40 at w
  obtain ⟨p1, w⟩ := w
  refine z_ldk (ok := q_isI) (n := 3) (ck_at dt_escape 22 rfl) rfl rfl (fun _ => rfl) rfl rfl ?_
  refine z_op (ck_at dt_escape 23 rfl) rfl (o_sipush _ (by decide)) ?_
  refine z_icmp (t := 67) (ck_at dt_escape 24 rfl) rfl p1 ⟨by decide, by decide⟩ ?_ ?_
  · intro q; have w := w.1 q
    refine z_goto (t := 119) (ck_at dt_escape 35 rfl) rfl ?_
    exact z_wk (r_escape_119_ok hm w) ⟨rfl, trivial⟩
  · intro q; have w := w.2 q
    refine z_ldk (ok := q_isI) (n := 2) (ck_at dt_escape 25 rfl) rfl rfl (fun _ => rfl) rfl rfl ?_
    refine z_ldk (ok := q_isI) (n := 3) (ck_at dt_escape 26 rfl) rfl rfl (fun _ => rfl) rfl rfl ?_
    refine z_stat (k' := k_isKind) (n := 0) (as := [iv x2, iv x3]) (r := []) (ck_at dt_escape 27 rfl) own_escape (mm_at 23 rfl) (ms_at 2 rfl) vk_isKind rfl nl_isKind rfl rfl rfl rfl ?_
    exact w.mono (Nat.le_refl _) (fun o B' ⟨v, ho, w⟩ => ⟨some (iv v), ho, z_wk (r_escape_52_ok hm w) ⟨rfl, ⟨rfl, ⟨rfl, ⟨rfl, trivial⟩⟩⟩⟩⟩)
def r_escape_35 (m : Nat) (h0 : qH) (d : Nat) (x1 x2 s0 : Int) (B : qB) (Q : qO → qB → Prop) : Prop := R32 s0 ∧ (s0 = 0 → qZ m h0 d k_in 0 [some (iv x2), some (iv 97), some (iv 122)] [] B (fun o B' => ∃ v : Int, o = .inl (some (iv v)) ∧ r_escape_78 m h0 d x1 x2 v B' Q)) ∧ (¬ s0 = 0 → qZ m h0 (d + 1) k_escape 40 [some (.ref m), some (iv x1), some (iv x2), some (iv 0)] [] B Q)
theorem r_escape_35_ok {m : Nat} {h0 : qH} {d : Nat} {x1 x2 s0 : Int} {B : qB} {Q : qO → qB → Prop} (hm : m + 100 < 1000000000) (w : r_escape_35 m h0 d x1 x2 s0 B Q) : qZ m h0 (d + 1) k_escape 35 [some (.ref m), some (iv x1), some (iv x2), none] [iv s0] B Q := by
  unfold r_escape_35 at w
  obtain ⟨p1, w⟩ := w
  refine z_ifz (t := 70) (ck_at dt_escape 19 rfl) rfl p1 ?_ ?_
  · intro q; have w := w.1 q
    refine z_ldk (ok := q_isI) (n := 2) (ck_at dt_escape 36 rfl) rfl rfl (fun _ => rfl) rfl rfl ?_
    refine z_op (ck_at dt_escape 37 rfl) rfl (o_bipush _ (by decide)) ?_
    refine z_op (ck_at dt_escape 38 rfl) rfl (o_bipush _ (by decide)) ?_
    refine z_stat (k' := k_in) (n := 0) (as := [iv x2, iv 97, iv 122]) (r := []) (ck_at dt_escape 39 rfl) own_escape (mm_at 2 rfl) (ms_at 0 rfl) vk_in rfl nl_in rfl rfl rfl rfl ?_
    exact w.mono (Nat.le_refl _) (fun o B' ⟨v, ho, w⟩ => ⟨some (iv v), ho, z_wk (r_escape_78_ok hm w) ⟨rfl, ⟨rfl, ⟨rfl, trivial⟩⟩⟩⟩)
  · intro q; have w := w.2 q
    refine z_op (ck_at dt_escape 20 rfl) rfl (o_const _) ?_
    refine z_st1 (ok := q_isI) (n := 3) (L' := [some (.ref m), some (iv x1), some (iv x2), some (iv 0)]) (ck_at dt_escape 21 rfl) rfl (fun _ => rfl) (fun _ _ => rfl) rfl nl_escape (by decide) rfl rfl ?_
    exact z_wk w ⟨rfl, ⟨rfl, ⟨rfl, ⟨rfl, trivial⟩⟩⟩⟩
def r_escape_29 (m : Nat) (h0 : qH) (d : Nat) (s0 : Int) (B : qB) (Q : qO → qB → Prop) : Prop := Q (.inl none) B
theorem r_escape_29_ok {m : Nat} {h0 : qH} {d : Nat} {s0 : Int} {B : qB} {Q : qO → qB → Prop} (hm : m + 100 < 1000000000) (w : r_escape_29 m h0 d s0 B Q) : qZ m h0 (d + 1) k_escape 29 [none, none, none, none] [iv s0] B Q := by
  unfold r_escape_29 at w
  refine z_op (ck_at dt_escape 15 rfl) rfl rfl ?_
  exact z_ret0 (ck_at dt_escape 16 rfl) rt_escape w
def r_escape_21 (m : Nat) (h0 : qH) (d : Nat) (B : qB) (Q : qO → qB → Prop) : Prop := qZ m h0 d k_wrong 0 [some (.ref m), some (iv (B 33 0))] [] B (fun o B' => ∃ v : Int, o = .inl (some (iv v)) ∧ r_escape_29 m h0 d v B' Q)
theorem r_escape_21_ok {m : Nat} {h0 : qH} {d : Nat} {B : qB} {Q : qO → qB → Prop} (hm : m + 100 < 1000000000) (w : r_escape_21 m h0 d B Q) : qZ m h0 (d + 1) k_escape 21 [some (.ref m), none, none, none] [] B Q := by
  unfold r_escape_21 at w
  refine z_ldk (ok := q_isA) (n := 0) (ck_at dt_escape 11 rfl) rfl rfl (fun _ => rfl) rfl rfl ?_
  refine z_ldk (ok := q_isA) (n := 0) (ck_at dt_escape 12 rfl) rfl rfl (fun _ => rfl) rfl rfl ?_
  refine z_getI (j := 33) (ck_at dt_escape 13 rfl) own_escape (mf_at 57 rfl) (by decide) rfl ?_
  refine z_virt (k' := k_wrong) (n := 0) (as := [iv (B 33 0)]) (r := []) (ck_at dt_escape 14 rfl) own_escape (mm_at 14 rfl) vk_wrong rfl nl_wrong rfl rfl rfl rfl ?_
  exact w.mono (Nat.le_refl _) (fun o B' ⟨v, ho, w⟩ => ⟨some (iv v), ho, z_wk (r_escape_29_ok hm w) trivial⟩)
def r_escape_8 (m : Nat) (h0 : qH) (d : Nat) (x1 s0 : Int) (B : qB) (Q : qO → qB → Prop) : Prop := R32 s0 ∧ (s0 < 32 → r_escape_21 m h0 d B Q) ∧ (s0 ≥ 32 → (s0 ≤ 126 → qZ m h0 d k_isLetterOfKind 0 [some (iv s0)] [] B (fun o B' => ∃ v : Int, o = .inl (some (iv v)) ∧ r_escape_35 m h0 d x1 s0 v B' Q)) ∧ (s0 > 126 → r_escape_21 m h0 d B Q))
theorem r_escape_8_ok {m : Nat} {h0 : qH} {d : Nat} {x1 s0 : Int} {B : qB} {Q : qO → qB → Prop} (hm : m + 100 < 1000000000) (w : r_escape_8 m h0 d x1 s0 B Q) : qZ m h0 (d + 1) k_escape 8 [some (.ref m), some (iv x1), none, none] [iv s0] B Q := by
  unfold r_escape_8 at w
  obtain ⟨p1, w⟩ := w
  refine z_st1 (ok := q_isI) (n := 2) (L' := [some (.ref m), some (iv x1), some (iv s0), none]) (ck_at dt_escape 4 rfl) rfl (fun _ => rfl) (fun _ _ => rfl) rfl nl_escape (by decide) rfl rfl ?_
  refine z_ldk (ok := q_isI) (n := 2) (ck_at dt_escape 5 rfl) rfl rfl (fun _ => rfl) rfl rfl ?_
  refine z_op (ck_at dt_escape 6 rfl) rfl (o_bipush _ (by decide)) ?_
  refine z_icmp (t := 21) (ck_at dt_escape 7 rfl) rfl p1 ⟨by decide, by decide⟩ ?_ ?_
  · intro q; have w := w.1 q
    exact z_wk (r_escape_21_ok hm w) ⟨rfl, trivial⟩
  · intro q; have w := w.2 q
    refine z_ldk (ok := q_isI) (n := 2) (ck_at dt_escape 8 rfl) rfl rfl (fun _ => rfl) rfl rfl ?_
    refine z_op (ck_at dt_escape 9 rfl) rfl (o_bipush _ (by decide)) ?_
    refine z_icmp (t := 31) (ck_at dt_escape 10 rfl) rfl p1 ⟨by decide, by decide⟩ ?_ ?_
    · intro q; have w := w.1 q
      refine z_ldk (ok := q_isI) (n := 2) (ck_at dt_escape 17 rfl) rfl rfl (fun _ => rfl) rfl rfl ?_
      refine z_stat (k' := k_isLetterOfKind) (n := 0) (as := [iv s0]) (r := []) (ck_at dt_escape 18 rfl) own_escape (mm_at 22 rfl) (ms_at 1 rfl) vk_isLetterOfKind rfl nl_isLetterOfKind rfl rfl rfl rfl ?_
      exact w.mono (Nat.le_refl _) (fun o B' ⟨v, ho, w⟩ => ⟨some (iv v), ho, z_wk (r_escape_35_ok hm w) ⟨rfl, ⟨rfl, ⟨rfl, trivial⟩⟩⟩⟩)
    · intro q; have w := w.2 q
      exact z_wk (r_escape_21_ok hm w) ⟨rfl, trivial⟩
def r_escape_0 (m : Nat) (h0 : qH) (d : Nat) (x1 : Int) (B : qB) (Q : qO → qB → Prop) : Prop := qZ m h0 d k_signAt 0 [some (.ref m), some (iv (B 33 0))] [] B (fun o B' => ∃ v : Int, o = .inl (some (iv v)) ∧ r_escape_8 m h0 d x1 v B' Q)
theorem r_escape_0_ok {m : Nat} {h0 : qH} {d : Nat} {x1 : Int} {B : qB} {Q : qO → qB → Prop} (hm : m + 100 < 1000000000) (w : r_escape_0 m h0 d x1 B Q) : qZ m h0 (d + 1) k_escape 0 [some (.ref m), some (iv x1), none, none] [] B Q := by
  unfold r_escape_0 at w
  refine z_ldk (ok := q_isA) (n := 0) (ck_at dt_escape 0 rfl) rfl rfl (fun _ => rfl) rfl rfl ?_
  refine z_ldk (ok := q_isA) (n := 0) (ck_at dt_escape 1 rfl) rfl rfl (fun _ => rfl) rfl rfl ?_
  refine z_getI (j := 33) (ck_at dt_escape 2 rfl) own_escape (mf_at 57 rfl) (by decide) rfl ?_
  refine z_virt (k' := k_signAt) (n := 0) (as := [iv (B 33 0)]) (r := []) (ck_at dt_escape 3 rfl) own_escape (mm_at 6 rfl) vk_signAt rfl nl_signAt rfl rfl rfl rfl ?_
  exact w.mono (Nat.le_refl _) (fun o B' ⟨v, ho, w⟩ => ⟨some (iv v), ho, z_wk (r_escape_8_ok hm w) ⟨rfl, ⟨rfl, trivial⟩⟩⟩)
/-! many(I)V -/
def t_many : List (Nat × Instr × Nat) := [(0, .aload_n 0, 1), (1, .dup, 1), (2, .getfield 213, 3), (5, .iconst 1, 1), (6, .iadd, 1), (7, .putfield 213, 3), (10, .aload_n 0, 1), (11, .aload_n 0, 1), (12, .getfield 213, 3), (15, .invokevirtual 220, 3), (18, .bipush 94, 2), (20, .if_icmp .ne 7, 3), (23, .iconst 1, 1), (24, .goto 4, 3), (27, .iconst 0, 1), (28, .istore_n 2, 1), (29, .iload_n 2, 1), (30, .ifCond .eq 13, 3), (33, .aload_n 0, 1), (34, .dup, 1), (35, .getfield 213, 3), (38, .iconst 1, 1), (39, .iadd, 1), (40, .putfield 213, 3), (43, .aload_n 0, 1), (44, .getfield 213, 3), (47, .istore_n 3, 1), (48, .aload_n 0, 1), (49, .getfield 183, 3), (52, .ifCond .ge 218, 3), (55, .aload_n 0, 1), (56, .aload_n 0, 1), (57, .getfield 213, 3), (60, .invokevirtual 220, 3), (63, .istore 4, 2), (65, .iload 4, 2), (67, .bipush 32, 2), (69, .if_icmp .lt 25, 3), (72, .iload 4, 2), (74, .bipush 126, 2), (76, .if_icmp .gt 18, 3), (79, .iload 4, 2), (81, .bipush 93, 2), (83, .if_icmp .ne 21, 3), (86, .aload_n 0, 1), (87, .getfield 213, 3), (90, .iload_n 3, 1), (91, .if_icmp .ne 13, 3), (94, .aload_n 0, 1), (95, .aload_n 0, 1), (96, .getfield 213, 3), (99, .invokevirtual 242, 3), (102, .pop, 1), (103, .return_, 1), (104, .iload 4, 2), (106, .bipush 93, 2), (108, .if_icmp .ne 6, 3), (111, .goto 159, 3), (114, .iload 4, 2), (116, .bipush 92, 2), (118, .if_icmp .ne 21, 3), (121, .aload_n 0, 1), (122, .dup, 1), (123, .getfield 213, 3), (126, .iconst 1, 1), (127, .iadd, 1), (128, .putfield 213, 3), (131, .aload_n 0, 1), (132, .iload_n 1, 1), (133, .invokevirtual 262, 3), (136, .goto (-88), 3), (139, .aload_n 0, 1), (140, .getfield 213, 3), (143, .istore 5, 2), (145, .aload_n 0, 1), (146, .dup, 1), (147, .getfield 213, 3), (150, .iconst 1, 1), (151, .iadd, 1), (152, .putfield 213, 3), (155, .aload_n 0, 1), (156, .aload_n 0, 1), (157, .getfield 213, 3), (160, .iconst 1, 1), (161, .iadd, 1), (162, .invokevirtual 220, 3), (165, .istore 6, 2), (167, .aload_n 0, 1), (168, .aload_n 0, 1), (169, .getfield 213, 3), (172, .invokevirtual 220, 3), (175, .bipush 45, 2), (177, .if_icmp .ne 83, 3), (180, .iload 6, 2), (182, .bipush 92, 2), (184, .if_icmp .eq 76, 3), (187, .iload 6, 2), (189, .bipush 93, 2), (191, .if_icmp .eq 69, 3), (194, .iload 6, 2), (196, .bipush 32, 2), (198, .if_icmp .lt 62, 3), (201, .iload 6, 2), (203, .bipush 126, 2), (205, .if_icmp .gt 55, 3), (208, .iload 6, 2), (210, .iload 4, 2), (212, .if_icmp .ge 11, 3), (215, .aload_n 0, 1), (216, .iload 5, 2), (218, .invokevirtual 242, 3), (221, .pop, 1), (222, .return_, 1), (223, .iload 4, 2), (225, .istore 7, 2), (227, .iload 7, 2), (229, .iload 6, 2), (231, .if_icmp .gt 16, 3), (234, .aload_n 0, 1), (235, .iload_n 1, 1), (236, .iload 7, 2), (238, .invokevirtual 258, 3), (241, .iinc 7 1, 3), (244, .goto (-17), 3), (247, .aload_n 0, 1), (248, .dup, 1), (249, .getfield 213, 3), (252, .iconst 2, 1), (253, .iadd, 1), (254, .putfield 213, 3), (257, .goto 10, 3), (260, .aload_n 0, 1), (261, .iload_n 1, 1), (262, .iload 4, 2), (264, .invokevirtual 258, 3), (267, .goto (-219), 3), (270, .aload_n 0, 1), (271, .dup, 1), (272, .getfield 213, 3), (275, .iconst 1, 1), (276, .iadd, 1), (277, .putfield 213, 3), (280, .iload_n 2, 1), (281, .ifCond .eq 44, 3), (284, .iconst 0, 1), (285, .istore 4, 2), (287, .iload 4, 2), (289, .iconst 4, 1), (290, .if_icmp .ge 35, 3), (293, .aload_n 0, 1), (294, .getfield 78, 3), (297, .iconst 4, 1), (298, .iload_n 1, 1), (299, .imul, 1), (300, .iload 4, 2), (302, .iadd, 1), (303, .aload_n 0, 1), (304, .getfield 78, 3), (307, .iconst 4, 1), (308, .iload_n 1, 1), (309, .imul, 1), (310, .iload 4, 2), (312, .iadd, 1), (313, .laload, 1), (314, .ldc2_w 275, 3), (317, .lxor, 1), (318, .lastore, 1), (319, .iinc 4 1, 3), (322, .goto (-35), 3), (325, .return_, 1)]
set_option maxRecDepth 100000 in
theorem dt_many : q_ck k_many t_many = true := by decide +kernel
def r_many_287 (m : Nat) (h0 : qH) (d : Nat) (x1 x4 : Int) (B : qB) (Q : qO → qB → Prop) : Prop := R32 x4 ∧ (x4 ≥ 4 → Q (.inl none) B) ∧ (x4 < 4 → 0 ≤ (4 * x1) + x4 ∧ (4 * x1) + x4 < 1024 ∧ qZ m h0 (d + 1) k_many 287 [some (.ref m), some (iv x1), none, none, some (iv (x4 + 1)), none, none, none] [] (u2 B 27 ((4 * x1) + x4) (lXor (B 27 ((4 * x1) + x4)) (-1))) Q)
theorem r_many_287_ok {m : Nat} {h0 : qH} {d : Nat} {x1 x4 : Int} {B : qB} {Q : qO → qB → Prop} (hm : m + 100 < 1000000000) (w : r_many_287 m h0 d x1 x4 B Q) : qZ m h0 (d + 1) k_many 287 [some (.ref m), some (iv x1), none, none, some (iv x4), none, none, none] [] B Q := by
  unfold r_many_287 at w
  obtain ⟨p1, w⟩ := w
  refine z_ldk (ok := q_isI) (n := 4) (ck_at dt_many 146 rfl) rfl rfl (fun _ => rfl) rfl rfl ?_
  refine z_op (ck_at dt_many 147 rfl) rfl (o_const _) ?_
  refine z_icmp (t := 325) (ck_at dt_many 148 rfl) rfl p1 ⟨by decide, by decide⟩ ?_ ?_
  · intro q; have w := w.1 q
    exact z_ret0 (ck_at dt_many 169 rfl) rt_many w
  · intro q; have w := w.2 q
    obtain ⟨p2, p3, w⟩ := w
    refine z_ldk (ok := q_isA) (n := 0) (ck_at dt_many 149 rfl) rfl rfl (fun _ => rfl) rfl rfl ?_
    refine z_getR (j := 27) (a := 21) (ck_at dt_many 150 rfl) own_many (mf_at 22 rfl) (by decide) rfl rfl ?_
    refine z_op (ck_at dt_many 151 rfl) rfl (o_const _) ?_
    refine z_ldk (ok := q_isI) (n := 1) (ck_at dt_many 152 rfl) rfl rfl (fun _ => rfl) rfl rfl ?_
    refine z_op (ck_at dt_many 153 rfl) rfl o_imul ?_
    refine z_ldk (ok := q_isI) (n := 4) (ck_at dt_many 154 rfl) rfl rfl (fun _ => rfl) rfl rfl ?_
    refine z_op (ck_at dt_many 155 rfl) rfl o_iadd ?_
    refine z_ldk (ok := q_isA) (n := 0) (ck_at dt_many 156 rfl) rfl rfl (fun _ => rfl) rfl rfl ?_
    refine z_getR (j := 27) (a := 21) (ck_at dt_many 157 rfl) own_many (mf_at 22 rfl) (by decide) rfl rfl ?_
    refine z_op (ck_at dt_many 158 rfl) rfl (o_const _) ?_
    refine z_ldk (ok := q_isI) (n := 1) (ck_at dt_many 159 rfl) rfl rfl (fun _ => rfl) rfl rfl ?_
    refine z_op (ck_at dt_many 160 rfl) rfl o_imul ?_
    refine z_ldk (ok := q_isI) (n := 4) (ck_at dt_many 161 rfl) rfl rfl (fun _ => rfl) rfl rfl ?_
    refine z_op (ck_at dt_many 162 rfl) rfl o_iadd ?_
    refine z_lald (j := 27) (n := 1024) (ck_at dt_many 163 rfl) rfl rfl rfl p2 p3 ?_
    refine z_ldc2 (c := (-1)) (ck_at dt_many 164 rfl) own_many (by decide +kernel) ?_
    refine z_op (ck_at dt_many 165 rfl) rfl o_lxor ?_
    refine z_last (j := 27) (n := 1024) hm (ck_at dt_many 166 rfl) rfl rfl rfl p2 p3 ?_
    refine z_iinc (n := 4) (L' := [some (.ref m), some (iv x1), none, none, some (iv (x4 + 1)), none, none, none]) (ck_at dt_many 167 rfl) rfl nl_many (by decide) trivial rfl ?_
    refine z_goto (t := 287) (ck_at dt_many 168 rfl) rfl ?_
    exact z_wk w ⟨rfl, ⟨rfl, ⟨rfl, trivial⟩⟩⟩
def r_many_270 (m : Nat) (h0 : qH) (d : Nat) (x1 x2 : Int) (B : qB) (Q : qO → qB → Prop) : Prop := R32 x2 ∧ (x2 = 0 → Q (.inl none) (u2 B 33 0 ((B 33 0) + 1))) ∧ (¬ x2 = 0 → qZ m h0 (d + 1) k_many 287 [some (.ref m), some (iv x1), none, none, some (iv 0), none, none, none] [] (u2 B 33 0 ((B 33 0) + 1)) Q)
theorem r_many_270_ok {m : Nat} {h0 : qH} {d : Nat} {x1 x2 : Int} {B : qB} {Q : qO → qB → Prop} (hm : m + 100 < 1000000000) (w : r_many_270 m h0 d x1 x2 B Q) : qZ m h0 (d + 1) k_many 270 [some (.ref m), some (iv x1), some (iv x2), none, none, none, none, none] [] B Q := by
  unfold r_many_270 at w
  obtain ⟨p1, w⟩ := w
  refine z_ldk (ok := q_isA) (n := 0) (ck_at dt_many 136 rfl) rfl rfl (fun _ => rfl) rfl rfl ?_
  refine z_op (ck_at dt_many 137 rfl) rfl rfl ?_
  refine z_getI (j := 33) (ck_at dt_many 138 rfl) own_many (mf_at 57 rfl) (by decide) rfl ?_
  refine z_op (ck_at dt_many 139 rfl) rfl (o_const _) ?_
  refine z_op (ck_at dt_many 140 rfl) rfl o_iadd ?_
  refine z_putI (j := 33) hm (ck_at dt_many 141 rfl) own_many (mf_at 57 rfl) (by decide) rfl rfl rfl ?_
  refine z_ldk (ok := q_isI) (n := 2) (ck_at dt_many 142 rfl) rfl rfl (fun _ => rfl) rfl rfl ?_
  refine z_ifz (t := 325) (ck_at dt_many 143 rfl) rfl p1 ?_ ?_
  · intro q; have w := w.1 q
    exact z_ret0 (ck_at dt_many 169 rfl) rt_many w
  · intro q; have w := w.2 q
    refine z_op (ck_at dt_many 144 rfl) rfl (o_const _) ?_
    refine z_st1 (ok := q_isI) (n := 4) (L' := [some (.ref m), some (iv x1), some (iv x2), none, some (iv 0), none, none, none]) (ck_at dt_many 145 rfl) rfl (fun _ => rfl) (fun _ _ => rfl) rfl nl_many (by decide) trivial rfl ?_
    exact z_wk w ⟨rfl, ⟨rfl, ⟨rfl, trivial⟩⟩⟩
def r_many_267 (m : Nat) (h0 : qH) (d : Nat) (x1 x2 x3 : Int) (B : qB) (Q : qO → qB → Prop) : Prop := qZ m h0 (d + 1) k_many 48 [some (.ref m), some (iv x1), some (iv x2), some (iv x3), none, none, none, none] [] B Q
theorem r_many_267_ok {m : Nat} {h0 : qH} {d : Nat} {x1 x2 x3 : Int} {B : qB} {Q : qO → qB → Prop} (hm : m + 100 < 1000000000) (w : r_many_267 m h0 d x1 x2 x3 B Q) : qZ m h0 (d + 1) k_many 267 [some (.ref m), some (iv x1), some (iv x2), some (iv x3), none, none, none, none] [] B Q := by
  unfold r_many_267 at w
  refine z_goto (t := 48) (ck_at dt_many 135 rfl) rfl ?_
  exact z_wk w ⟨rfl, ⟨rfl, ⟨rfl, ⟨rfl, trivial⟩⟩⟩⟩
def r_many_260 (m : Nat) (h0 : qH) (d : Nat) (x1 x2 x3 x4 : Int) (B : qB) (Q : qO → qB → Prop) : Prop := qZ m h0 d k_include 0 [some (.ref m), some (iv x1), some (iv x4)] [] B (fun o B' => o = .inl none ∧ r_many_267 m h0 d x1 x2 x3 B' Q)
theorem r_many_260_ok {m : Nat} {h0 : qH} {d : Nat} {x1 x2 x3 x4 : Int} {B : qB} {Q : qO → qB → Prop} (hm : m + 100 < 1000000000) (w : r_many_260 m h0 d x1 x2 x3 x4 B Q) : qZ m h0 (d + 1) k_many 260 [some (.ref m), some (iv x1), some (iv x2), some (iv x3), some (iv x4), none, none, none] [] B Q := by
  unfold r_many_260 at w
  refine z_ldk (ok := q_isA) (n := 0) (ck_at dt_many 131 rfl) rfl rfl (fun _ => rfl) rfl rfl ?_
  refine z_ldk (ok := q_isI) (n := 1) (ck_at dt_many 132 rfl) rfl rfl (fun _ => rfl) rfl rfl ?_
  refine z_ldk (ok := q_isI) (n := 4) (ck_at dt_many 133 rfl) rfl rfl (fun _ => rfl) rfl rfl ?_
  refine z_virt (k' := k_include) (n := 0) (as := [iv x1, iv x4]) (r := []) (ck_at dt_many 134 rfl) own_many (mm_at 19 rfl) vk_include rfl nl_include rfl rfl rfl rfl ?_
  exact w.mono (Nat.le_refl _) (fun o B' ⟨ho, w⟩ => ⟨none, ho, z_wk (r_many_267_ok hm w) ⟨rfl, ⟨rfl, ⟨rfl, ⟨rfl, trivial⟩⟩⟩⟩⟩)
def r_many_241 (m : Nat) (h0 : qH) (d : Nat) (x1 x2 x3 x6 x7 : Int) (B : qB) (Q : qO → qB → Prop) : Prop := qZ m h0 (d + 1) k_many 227 [some (.ref m), some (iv x1), some (iv x2), some (iv x3), none, none, some (iv x6), some (iv (x7 + 1))] [] B Q
theorem r_many_241_ok {m : Nat} {h0 : qH} {d : Nat} {x1 x2 x3 x6 x7 : Int} {B : qB} {Q : qO → qB → Prop} (hm : m + 100 < 1000000000) (w : r_many_241 m h0 d x1 x2 x3 x6 x7 B Q) : qZ m h0 (d + 1) k_many 241 [some (.ref m), some (iv x1), some (iv x2), some (iv x3), none, none, some (iv x6), some (iv x7)] [] B Q := by
  unfold r_many_241 at w
  refine z_iinc (n := 7) (L' := [some (.ref m), some (iv x1), some (iv x2), some (iv x3), none, none, some (iv x6), some (iv (x7 + 1))]) (ck_at dt_many 122 rfl) rfl nl_many (by decide) rfl rfl ?_
  refine z_goto (t := 227) (ck_at dt_many 123 rfl) rfl ?_
  exact z_wk w ⟨rfl, ⟨rfl, ⟨rfl, ⟨rfl, ⟨rfl, ⟨rfl, trivial⟩⟩⟩⟩⟩⟩
def r_many_227 (m : Nat) (h0 : qH) (d : Nat) (x1 x2 x3 x6 x7 : Int) (B : qB) (Q : qO → qB → Prop) : Prop := R32 x7 ∧ R32 x6 ∧ (x7 > x6 → r_many_267 m h0 d x1 x2 x3 (u2 B 33 0 ((B 33 0) + 2)) Q) ∧ (x7 ≤ x6 → qZ m h0 d k_include 0 [some (.ref m), some (iv x1), some (iv x7)] [] B (fun o B' => o = .inl none ∧ r_many_241 m h0 d x1 x2 x3 x6 x7 B' Q))
theorem r_many_227_ok {m : Nat} {h0 : qH} {d : Nat} {x1 x2 x3 x6 x7 : Int} {B : qB} {Q : qO → qB → Prop} (hm : m + 100 < 1000000000) (w : r_many_227 m h0 d x1 x2 x3 x6 x7 B Q) : qZ m h0 (d + 1) k_many 227 [some (.ref m), some (iv x1), some (iv x2), some (iv x3), none, none, some (iv x6), some (iv x7)] [] B Q := by
  unfold r_many_227 at w
  obtain ⟨p1, p2, w⟩ := w
  refine z_ldk (ok := q_isI) (n := 7) (ck_at dt_many 115 rfl) rfl rfl (fun _ => rfl) rfl rfl ?_
  refine z_ldk (ok := q_isI) (n := 6) (ck_at dt_many 116 rfl) rfl rfl (fun _ => rfl) rfl rfl ?_
  refine z_icmp (t := 247) (ck_at dt_many 117 rfl) rfl p1 p2 ?_ ?_
  · intro q; have w := w.1 q
    refine z_ldk (ok := q_isA) (n := 0) (ck_at dt_many 124 rfl) rfl rfl (fun _ => rfl) rfl rfl ?_
    refine z_op (ck_at dt_many 125 rfl) rfl rfl ?_
    refine z_getI (j := 33) (ck_at dt_many 126 rfl) own_many (mf_at 57 rfl) (by decide) rfl ?_
    refine z_op (ck_at dt_many 127 rfl) rfl (o_const _) ?_
    refine z_op (ck_at dt_many 128 rfl) rfl o_iadd ?_
    refine z_putI (j := 33) hm (ck_at dt_many 129 rfl) own_many (mf_at 57 rfl) (by decide) rfl rfl rfl ?_
    refine z_goto (t := 267) (ck_at dt_many 130 rfl) rfl ?_
    exact z_wk (r_many_267_ok hm w) ⟨rfl, ⟨rfl, ⟨rfl, ⟨rfl, trivial⟩⟩⟩⟩
  · intro q; have w := w.2 q
    refine z_ldk (ok := q_isA) (n := 0) (ck_at dt_many 118 rfl) rfl rfl (fun _ => rfl) rfl rfl ?_
    refine z_ldk (ok := q_isI) (n := 1) (ck_at dt_many 119 rfl) rfl rfl (fun _ => rfl) rfl rfl ?_
    refine z_ldk (ok := q_isI) (n := 7) (ck_at dt_many 120 rfl) rfl rfl (fun _ => rfl) rfl rfl ?_
    refine z_virt (k' := k_include) (n := 0) (as := [iv x1, iv x7]) (r := []) (ck_at dt_many 121 rfl) own_many (mm_at 19 rfl) vk_include rfl nl_include rfl rfl rfl rfl ?_
    exact w.mono (Nat.le_refl _) (fun o B' ⟨ho, w⟩ => ⟨none, ho, z_wk (r_many_241_ok hm w) ⟨rfl, ⟨rfl, ⟨rfl, ⟨rfl, ⟨rfl, ⟨rfl, trivial⟩⟩⟩⟩⟩⟩⟩)
def r_many_221 (m : Nat) (h0 : qH) (d : Nat) (s0 : Int) (B : qB) (Q : qO → qB → Prop) : Prop := Q (.inl none) B
theorem r_many_221_ok {m : Nat} {h0 : qH} {d : Nat} {s0 : Int} {B : qB} {Q : qO → qB → Prop} (hm : m + 100 < 1000000000) (w : r_many_221 m h0 d s0 B Q) : qZ m h0 (d + 1) k_many 221 [none, none, none, none, none, none, none, none] [iv s0] B Q := by
  unfold r_many_221 at w
  refine z_op (ck_at dt_many 111 rfl) rfl rfl ?_
  exact z_ret0 (ck_at dt_many 112 rfl) rt_many w
def r_many_175 (m : Nat) (h0 : qH) (d : Nat) (x1 x2 x3 x4 x5 x6 s0 : Int) (B : qB) (Q : qO → qB → Prop) : Prop := R32 s0 ∧ (¬ s0 = 45 → r_many_260 m h0 d x1 x2 x3 x4 B Q) ∧ (s0 = 45 → R32 x6 ∧ (x6 = 92 → r_many_260 m h0 d x1 x2 x3 x4 B Q) ∧ (¬ x6 = 92 → (x6 = 93 → r_many_260 m h0 d x1 x2 x3 x4 B Q) ∧ (¬ x6 = 93 → (x6 < 32 → r_many_260 m h0 d x1 x2 x3 x4 B Q) ∧ (x6 ≥ 32 → (x6 > 126 → r_many_260 m h0 d x1 x2 x3 x4 B Q) ∧ (x6 ≤ 126 → R32 x4 ∧ (x6 ≥ x4 → qZ m h0 (d + 1) k_many 227 [some (.ref m), some (iv x1), some (iv x2), some (iv x3), none, none, some (iv x6), some (iv x4)] [] B Q) ∧ (x6 < x4 → qZ m h0 d k_wrong 0 [some (.ref m), some (iv x5)] [] B (fun o B' => ∃ v : Int, o = .inl (some (iv v)) ∧ r_many_221 m h0 d v B' Q)))))))
theorem r_many_175_ok {m : Nat} {h0 : qH} {d : Nat} {x1 x2 x3 x4 x5 x6 s0 : Int} {B : qB} {Q : qO → qB → Prop} (hm : m + 100 < 1000000000) (w : r_many_175 m h0 d x1 x2 x3 x4 x5 x6 s0 B Q) : qZ m h0 (d + 1) k_many 175 [some (.ref m), some (iv x1), some (iv x2), some (iv x3), some (iv x4), some (iv x5), some (iv x6), none] [iv s0] B Q := by
  unfold r_many_175 at w
  obtain ⟨p1, w⟩ := w
  refine z_op (ck_at dt_many 91 rfl) rfl (o_bipush _ (by decide)) ?_
  refine z_icmp (t := 260) (ck_at dt_many 92 rfl) rfl p1 ⟨by decide, by decide⟩ ?_ ?_
  · intro q; have w := w.1 q
    exact z_wk (r_many_260_ok hm w) ⟨rfl, ⟨rfl, ⟨rfl, ⟨rfl, ⟨rfl, trivial⟩⟩⟩⟩⟩
  · intro q; have w := w.2 q
    obtain ⟨p2, w⟩ := w
    refine z_ldk (ok := q_isI) (n := 6) (ck_at dt_many 93 rfl) rfl rfl (fun _ => rfl) rfl rfl ?_
    refine z_op (ck_at dt_many 94 rfl) rfl (o_bipush _ (by decide)) ?_
    refine z_icmp (t := 260) (ck_at dt_many 95 rfl) rfl p2 ⟨by decide, by decide⟩ ?_ ?_
    · intro q; have w := w.1 q
      exact z_wk (r_many_260_ok hm w) ⟨rfl, ⟨rfl, ⟨rfl, ⟨rfl, ⟨rfl, trivial⟩⟩⟩⟩⟩
    · intro q; have w := w.2 q
      refine z_ldk (ok := q_isI) (n := 6) (ck_at dt_many 96 rfl) rfl rfl (fun _ => rfl) rfl rfl ?_
      refine z_op (ck_at dt_many 97 rfl) rfl (o_bipush _ (by decide)) ?_
      refine z_icmp (t := 260) (ck_at dt_many 98 rfl) rfl p2 ⟨by decide, by decide⟩ ?_ ?_
      · intro q; have w := w.1 q
        exact z_wk (r_many_260_ok hm w) ⟨rfl, ⟨rfl, ⟨rfl, ⟨rfl, ⟨rfl, trivial⟩⟩⟩⟩⟩
      · intro q; have w := w.2 q
        refine z_ldk (ok := q_isI) (n := 6) (ck_at dt_many 99 rfl) rfl rfl (fun _ => rfl) rfl rfl ?_
        refine z_op (ck_at dt_many 100 rfl) rfl (o_bipush _ (by decide)) ?_
        refine z_icmp (t := 260) (ck_at dt_many 101 rfl) rfl p2 ⟨by decide, by decide⟩ ?_ ?_
        · intro q; have w := w.1 q
          exact z_wk (r_many_260_ok hm w) ⟨rfl, ⟨rfl, ⟨rfl, ⟨rfl, ⟨rfl, trivial⟩⟩⟩⟩⟩
        · intro q; have w := w.2 q
          refine z_ldk (ok := q_isI) (n := 6) (ck_at dt_many 102 rfl) rfl rfl (fun _ => rfl) rfl rfl ?_
          refine z_op (ck_at dt_many 103 rfl) rfl (o_bipush _ (by decide)) ?_
          refine z_icmp (t := 260) (ck_at dt_many 104 rfl) rfl p2 ⟨by decide, by decide⟩ ?_ ?_
          · intro q; have w := w.1 q
            exact z_wk (r_many_260_ok hm w) ⟨rfl, ⟨rfl, ⟨rfl, ⟨rfl, ⟨rfl, trivial⟩⟩⟩⟩⟩
          · intro q; have w := w.2 q
            obtain ⟨p3, w⟩ := w
            refine z_ldk (ok := q_isI) (n := 6) (ck_at dt_many 105 rfl) rfl rfl (fun _ => rfl) rfl rfl ?_
            refine z_ldk (ok := q_isI) (n := 4) (ck_at dt_many 106 rfl) rfl rfl (fun _ => rfl) rfl rfl ?_
            refine z_icmp (t := 223) (ck_at dt_many 107 rfl) rfl p2 p3 ?_ ?_
            · intro q; have w := w.1 q
              refine z_ldk (ok := q_isI) (n := 4) (ck_at dt_many 113 rfl) rfl rfl (fun _ => rfl) rfl rfl ?_
              refine z_st1 (ok := q_isI) (n := 7) (L' := [some (.ref m), some (iv x1), some (iv x2), some (iv x3), some (iv x4), some (iv x5), some (iv x6), some (iv x4)]) (ck_at dt_many 114 rfl) rfl (fun _ => rfl) (fun _ _ => rfl) rfl nl_many (by decide) rfl rfl ?_
              exact z_wk w ⟨rfl, ⟨rfl, ⟨rfl, ⟨rfl, ⟨rfl, ⟨rfl, trivial⟩⟩⟩⟩⟩⟩
            · intro q; have w := w.2 q
              refine z_ldk (ok := q_isA) (n := 0) (ck_at dt_many 108 rfl) rfl rfl (fun _ => rfl) rfl rfl ?_
              refine z_ldk (ok := q_isI) (n := 5) (ck_at dt_many 109 rfl) rfl rfl (fun _ => rfl) rfl rfl ?_
              refine z_virt (k' := k_wrong) (n := 0) (as := [iv x5]) (r := []) (ck_at dt_many 110 rfl) own_many (mm_at 14 rfl) vk_wrong rfl nl_wrong rfl rfl rfl rfl ?_
              exact w.mono (Nat.le_refl _) (fun o B' ⟨v, ho, w⟩ => ⟨some (iv v), ho, z_wk (r_many_221_ok hm w) trivial⟩)
def r_many_165 (m : Nat) (h0 : qH) (d : Nat) (x1 x2 x3 x4 x5 s0 : Int) (B : qB) (Q : qO → qB → Prop) : Prop := qZ m h0 d k_signAt 0 [some (.ref m), some (iv (B 33 0))] [] B (fun o B' => ∃ v : Int, o = .inl (some (iv v)) ∧ r_many_175 m h0 d x1 x2 x3 x4 x5 s0 v B' Q)
theorem r_many_165_ok {m : Nat} {h0 : qH} {d : Nat} {x1 x2 x3 x4 x5 s0 : Int} {B : qB} {Q : qO → qB → Prop} (hm : m + 100 < 1000000000) (w : r_many_165 m h0 d x1 x2 x3 x4 x5 s0 B Q) : qZ m h0 (d + 1) k_many 165 [some (.ref m), some (iv x1), some (iv x2), some (iv x3), some (iv x4), some (iv x5), none, none] [iv s0] B Q := by
  unfold r_many_165 at w
  refine z_st1 (ok := q_isI) (n := 6) (L' := [some (.ref m), some (iv x1), some (iv x2), some (iv x3), some (iv x4), some (iv x5), some (iv s0), none]) (ck_at dt_many 86 rfl) rfl (fun _ => rfl) (fun _ _ => rfl) rfl nl_many (by decide) rfl rfl ?_
  refine z_ldk (ok := q_isA) (n := 0) (ck_at dt_many 87 rfl) rfl rfl (fun _ => rfl) rfl rfl ?_
  refine z_ldk (ok := q_isA) (n := 0) (ck_at dt_many 88 rfl) rfl rfl (fun _ => rfl) rfl rfl ?_
  refine z_getI (j := 33) (ck_at dt_many 89 rfl) own_many (mf_at 57 rfl) (by decide) rfl ?_
  refine z_virt (k' := k_signAt) (n := 0) (as := [iv (B 33 0)]) (r := []) (ck_at dt_many 90 rfl) own_many (mm_at 6 rfl) vk_signAt rfl nl_signAt rfl rfl rfl rfl ?_
  exact w.mono (Nat.le_refl _) (fun o B' ⟨v, ho, w⟩ => ⟨some (iv v), ho, z_wk (r_many_175_ok hm w) ⟨rfl, ⟨rfl, ⟨rfl, ⟨rfl, ⟨rfl, ⟨rfl, ⟨rfl, trivial⟩⟩⟩⟩⟩⟩⟩⟩)
def r_many_136 (m : Nat) (h0 : qH) (d : Nat) (x1 x2 x3 : Int) (B : qB) (Q : qO → qB → Prop) : Prop := qZ m h0 (d + 1) k_many 48 [some (.ref m), some (iv x1), some (iv x2), some (iv x3), none, none, none, none] [] B Q
theorem r_many_136_ok {m : Nat} {h0 : qH} {d : Nat} {x1 x2 x3 : Int} {B : qB} {Q : qO → qB → Prop} (hm : m + 100 < 1000000000) (w : r_many_136 m h0 d x1 x2 x3 B Q) : qZ m h0 (d + 1) k_many 136 [some (.ref m), some (iv x1), some (iv x2), some (iv x3), none, none, none, none] [] B Q := by
  unfold r_many_136 at w
  refine z_goto (t := 48) (ck_at dt_many 70 rfl) rfl ?_
  exact z_wk w ⟨rfl, ⟨rfl, ⟨rfl, ⟨rfl, trivial⟩⟩⟩⟩
def r_many_104 (m : Nat) (h0 : qH) (d : Nat) (x1 x2 x3 x4 : Int) (B : qB) (Q : qO → qB → Prop) : Prop := R32 x4 ∧ (¬ x4 = 93 → (¬ x4 = 92 → qZ m h0 d k_signAt 0 [some (.ref m), some (iv (((B 33 0) + 1) + 1))] [] (u2 B 33 0 ((B 33 0) + 1)) (fun o B' => ∃ v : Int, o = .inl (some (iv v)) ∧ r_many_165 m h0 d x1 x2 x3 x4 (B 33 0) v B' Q)) ∧ (x4 = 92 → qZ m h0 d k_escape 0 [some (.ref m), some (iv x1), none, none] [] (u2 B 33 0 ((B 33 0) + 1)) (fun o B' => o = .inl none ∧ r_many_136 m h0 d x1 x2 x3 B' Q))) ∧ (x4 = 93 → r_many_270 m h0 d x1 x2 B Q)
theorem r_many_104_ok {m : Nat} {h0 : qH} {d : Nat} {x1 x2 x3 x4 : Int} {B : qB} {Q : qO → qB → Prop} (hm : m + 100 < 1000000000) (w : r_many_104 m h0 d x1 x2 x3 x4 B Q) : qZ m h0 (d + 1) k_many 104 [some (.ref m), some (iv x1), some (iv x2), some (iv x3), some (iv x4), none, none, none] [] B Q := by
  unfold r_many_104 at w
  obtain ⟨p1, w⟩ := w
  refine z_ldk (ok := q_isI) (n := 4) (ck_at dt_many 54 rfl) rfl rfl (fun _ => rfl) rfl rfl ?_
  refine z_op (ck_at dt_many 55 rfl) rfl (o_bipush _ (by decide)) ?_
  refine z_icmp (t := 114) (ck_at dt_many 56 rfl) rfl p1 ⟨by decide, by decide⟩ ?_ ?_
  · intro q; have w := w.1 q
    refine z_ldk (ok := q_isI) (n := 4) (ck_at dt_many 58 rfl) rfl rfl (fun _ => rfl) rfl rfl ?_
    refine z_op (ck_at dt_many 59 rfl) rfl (o_bipush _ (by decide)) ?_
    refine z_icmp (t := 139) (ck_at dt_many 60 rfl) rfl p1 ⟨by decide, by decide⟩ ?_ ?_
    · intro q; have w := w.1 q
      refine z_ldk (ok := q_isA) (n := 0) (ck_at dt_many 71 rfl) rfl rfl (fun _ => rfl) rfl rfl ?_
      refine z_getI (j := 33) (ck_at dt_many 72 rfl) own_many (mf_at 57 rfl) (by decide) rfl ?_
      refine z_st1 (ok := q_isI) (n := 5) (L' := [some (.ref m), some (iv x1), some (iv x2), some (iv x3), some (iv x4), some (iv (B 33 0)), none, none]) (ck_at dt_many 73 rfl) rfl (fun _ => rfl) (fun _ _ => rfl) rfl nl_many (by decide) rfl rfl ?_
      refine z_ldk (ok := q_isA) (n := 0) (ck_at dt_many 74 rfl) rfl rfl (fun _ => rfl) rfl rfl ?_
      refine z_op (ck_at dt_many 75 rfl) rfl rfl ?_
      refine z_getI (j := 33) (ck_at dt_many 76 rfl) own_many (mf_at 57 rfl) (by decide) rfl ?_
      refine z_op (ck_at dt_many 77 rfl) rfl (o_const _) ?_
      refine z_op (ck_at dt_many 78 rfl) rfl o_iadd ?_
      refine z_putI (j := 33) hm (ck_at dt_many 79 rfl) own_many (mf_at 57 rfl) (by decide) rfl rfl rfl ?_
      refine z_ldk (ok := q_isA) (n := 0) (ck_at dt_many 80 rfl) rfl rfl (fun _ => rfl) rfl rfl ?_
      refine z_ldk (ok := q_isA) (n := 0) (ck_at dt_many 81 rfl) rfl rfl (fun _ => rfl) rfl rfl ?_
      refine z_getI (j := 33) (ck_at dt_many 82 rfl) own_many (mf_at 57 rfl) (by decide) rfl ?_
      refine z_op (ck_at dt_many 83 rfl) rfl (o_const _) ?_
      refine z_op (ck_at dt_many 84 rfl) rfl o_iadd ?_
      refine z_virt (k' := k_signAt) (n := 0) (as := [iv (((B 33 0) + 1) + 1)]) (r := []) (ck_at dt_many 85 rfl) own_many (mm_at 6 rfl) vk_signAt rfl nl_signAt rfl rfl rfl rfl ?_
      exact w.mono (Nat.le_refl _) (fun o B' ⟨v, ho, w⟩ => ⟨some (iv v), ho, z_wk (r_many_165_ok hm w) ⟨rfl, ⟨rfl, ⟨rfl, ⟨rfl, ⟨rfl, ⟨rfl, trivial⟩⟩⟩⟩⟩⟩⟩)
    · intro q; have w := w.2 q
      refine z_ldk (ok := q_isA) (n := 0) (ck_at dt_many 61 rfl) rfl rfl (fun _ => rfl) rfl rfl ?_
      refine z_op (ck_at dt_many 62 rfl) rfl rfl ?_
      refine z_getI (j := 33) (ck_at dt_many 63 rfl) own_many (mf_at 57 rfl) (by decide) rfl ?_
      refine z_op (ck_at dt_many 64 rfl) rfl (o_const _) ?_
      refine z_op (ck_at dt_many 65 rfl) rfl o_iadd ?_
      refine z_putI (j := 33) hm (ck_at dt_many 66 rfl) own_many (mf_at 57 rfl) (by decide) rfl rfl rfl ?_
      refine z_ldk (ok := q_isA) (n := 0) (ck_at dt_many 67 rfl) rfl rfl (fun _ => rfl) rfl rfl ?_
      refine z_ldk (ok := q_isI) (n := 1) (ck_at dt_many 68 rfl) rfl rfl (fun _ => rfl) rfl rfl ?_
      refine z_virt (k' := k_escape) (n := 2) (as := [iv x1]) (r := []) (ck_at dt_many 69 rfl) own_many (mm_at 20 rfl) vk_escape rfl nl_escape rfl rfl rfl rfl ?_
      exact w.mono (Nat.le_refl _) (fun o B' ⟨ho, w⟩ => ⟨none, ho, z_wk (r_many_136_ok hm w) ⟨rfl, ⟨rfl, ⟨rfl, ⟨rfl, trivial⟩⟩⟩⟩⟩)
  · intro q; have w := w.2 q
    refine z_goto (t := 270) (ck_at dt_many 57 rfl) rfl ?_
    exact z_wk (r_many_270_ok hm w) ⟨rfl, ⟨rfl, ⟨rfl, trivial⟩⟩⟩
def r_many_102 (m : Nat) (h0 : qH) (d : Nat) (s0 : Int) (B : qB) (Q : qO → qB → Prop) : Prop := Q (.inl none) B
theorem r_many_102_ok {m : Nat} {h0 : qH} {d : Nat} {s0 : Int} {B : qB} {Q : qO → qB → Prop} (hm : m + 100 < 1000000000) (w : r_many_102 m h0 d s0 B Q) : qZ m h0 (d + 1) k_many 102 [none, none, none, none, none, none, none, none] [iv s0] B Q := by
  unfold r_many_102 at w
  refine z_op (ck_at dt_many 52 rfl) rfl rfl ?_
  exact z_ret0 (ck_at dt_many 53 rfl) rt_many w
def r_many_94 (m : Nat) (h0 : qH) (d : Nat) (B : qB) (Q : qO → qB → Prop) : Prop := qZ m h0 d k_wrong 0 [some (.ref m), some (iv (B 33 0))] [] B (fun o B' => ∃ v : Int, o = .inl (some (iv v)) ∧ r_many_102 m h0 d v B' Q)
theorem r_many_94_ok {m : Nat} {h0 : qH} {d : Nat} {B : qB} {Q : qO → qB → Prop} (hm : m + 100 < 1000000000) (w : r_many_94 m h0 d B Q) : qZ m h0 (d + 1) k_many 94 [some (.ref m), none, none, none, none, none, none, none] [] B Q := by
  unfold r_many_94 at w
  refine z_ldk (ok := q_isA) (n := 0) (ck_at dt_many 48 rfl) rfl rfl (fun _ => rfl) rfl rfl ?_
  refine z_ldk (ok := q_isA) (n := 0) (ck_at dt_many 49 rfl) rfl rfl (fun _ => rfl) rfl rfl ?_
  refine z_getI (j := 33) (ck_at dt_many 50 rfl) own_many (mf_at 57 rfl) (by decide) rfl ?_
  refine z_virt (k' := k_wrong) (n := 0) (as := [iv (B 33 0)]) (r := []) (ck_at dt_many 51 rfl) own_many (mm_at 14 rfl) vk_wrong rfl nl_wrong rfl rfl rfl rfl ?_
  exact w.mono (Nat.le_refl _) (fun o B' ⟨v, ho, w⟩ => ⟨some (iv v), ho, z_wk (r_many_102_ok hm w) trivial⟩)
def r_many_63 (m : Nat) (h0 : qH) (d : Nat) (x1 x2 x3 s0 : Int) (B : qB) (Q : qO → qB → Prop) : Prop := R32 s0 ∧ (s0 < 32 → r_many_94 m h0 d B Q) ∧ (s0 ≥ 32 → (s0 > 126 → r_many_94 m h0 d B Q) ∧ (s0 ≤ 126 → (¬ s0 = 93 → r_many_104 m h0 d x1 x2 x3 s0 B Q) ∧ (s0 = 93 → R32 (B 33 0) ∧ R32 x3 ∧ (¬ B 33 0 = x3 → r_many_104 m h0 d x1 x2 x3 s0 B Q) ∧ (B 33 0 = x3 → r_many_94 m h0 d B Q))))
theorem r_many_63_ok {m : Nat} {h0 : qH} {d : Nat} {x1 x2 x3 s0 : Int} {B : qB} {Q : qO → qB → Prop} (hm : m + 100 < 1000000000) (w : r_many_63 m h0 d x1 x2 x3 s0 B Q) : qZ m h0 (d + 1) k_many 63 [some (.ref m), some (iv x1), some (iv x2), some (iv x3), none, none, none, none] [iv s0] B Q := by
  unfold r_many_63 at w
  obtain ⟨p1, w⟩ := w
  refine z_st1 (ok := q_isI) (n := 4) (L' := [some (.ref m), some (iv x1), some (iv x2), some (iv x3), some (iv s0), none, none, none]) (ck_at dt_many 34 rfl) rfl (fun _ => rfl) (fun _ _ => rfl) rfl nl_many (by decide) rfl rfl ?_
  refine z_ldk (ok := q_isI) (n := 4) (ck_at dt_many 35 rfl) rfl rfl (fun _ => rfl) rfl rfl ?_
  refine z_op (ck_at dt_many 36 rfl) rfl (o_bipush _ (by decide)) ?_
  refine z_icmp (t := 94) (ck_at dt_many 37 rfl) rfl p1 ⟨by decide, by decide⟩ ?_ ?_
  · intro q; have w := w.1 q
    exact z_wk (r_many_94_ok hm w) ⟨rfl, trivial⟩
  · intro q; have w := w.2 q
    refine z_ldk (ok := q_isI) (n := 4) (ck_at dt_many 38 rfl) rfl rfl (fun _ => rfl) rfl rfl ?_
    refine z_op (ck_at dt_many 39 rfl) rfl (o_bipush _ (by decide)) ?_
    refine z_icmp (t := 94) (ck_at dt_many 40 rfl) rfl p1 ⟨by decide, by decide⟩ ?_ ?_
    · intro q; have w := w.1 q
      exact z_wk (r_many_94_ok hm w) ⟨rfl, trivial⟩
    · intro q; have w := w.2 q
      refine z_ldk (ok := q_isI) (n := 4) (ck_at dt_many 41 rfl) rfl rfl (fun _ => rfl) rfl rfl ?_
      refine z_op (ck_at dt_many 42 rfl) rfl (o_bipush _ (by decide)) ?_
      refine z_icmp (t := 104) (ck_at dt_many 43 rfl) rfl p1 ⟨by decide, by decide⟩ ?_ ?_
      · intro q; have w := w.1 q
        exact z_wk (r_many_104_ok hm w) ⟨rfl, ⟨rfl, ⟨rfl, ⟨rfl, ⟨rfl, trivial⟩⟩⟩⟩⟩
      · intro q; have w := w.2 q
        obtain ⟨p2, p3, w⟩ := w
        refine z_ldk (ok := q_isA) (n := 0) (ck_at dt_many 44 rfl) rfl rfl (fun _ => rfl) rfl rfl ?_
        refine z_getI (j := 33) (ck_at dt_many 45 rfl) own_many (mf_at 57 rfl) (by decide) rfl ?_
        refine z_ldk (ok := q_isI) (n := 3) (ck_at dt_many 46 rfl) rfl rfl (fun _ => rfl) rfl rfl ?_
        refine z_icmp (t := 104) (ck_at dt_many 47 rfl) rfl p2 p3 ?_ ?_
        · intro q; have w := w.1 q
          exact z_wk (r_many_104_ok hm w) ⟨rfl, ⟨rfl, ⟨rfl, ⟨rfl, ⟨rfl, trivial⟩⟩⟩⟩⟩
        · intro q; have w := w.2 q
          exact z_wk (r_many_94_ok hm w) ⟨rfl, trivial⟩
def r_many_48 (m : Nat) (h0 : qH) (d : Nat) (x1 x2 x3 : Int) (B : qB) (Q : qO → qB → Prop) : Prop := R32 (B 35 0) ∧ (B 35 0 ≥ 0 → r_many_270 m h0 d x1 x2 B Q) ∧ (B 35 0 < 0 → qZ m h0 d k_signAt 0 [some (.ref m), some (iv (B 33 0))] [] B (fun o B' => ∃ v : Int, o = .inl (some (iv v)) ∧ r_many_63 m h0 d x1 x2 x3 v B' Q))
theorem r_many_48_ok {m : Nat} {h0 : qH} {d : Nat} {x1 x2 x3 : Int} {B : qB} {Q : qO → qB → Prop} (hm : m + 100 < 1000000000) (w : r_many_48 m h0 d x1 x2 x3 B Q) : qZ m h0 (d + 1) k_many 48 [some (.ref m), some (iv x1), some (iv x2), some (iv x3), none, none, none, none] [] B Q := by
  unfold r_many_48 at w
  obtain ⟨p1, w⟩ := w
  refine z_ldk (ok := q_isA) (n := 0) (ck_at dt_many 27 rfl) rfl rfl (fun _ => rfl) rfl rfl ?_
  refine z_getI (j := 35) (ck_at dt_many 28 rfl) own_many (mf_at 51 rfl) (by decide) rfl ?_
  refine z_ifz (t := 270) (ck_at dt_many 29 rfl) rfl p1 ?_ ?_
  · intro q; have w := w.1 q
    exact z_wk (r_many_270_ok hm w) ⟨rfl, ⟨rfl, ⟨rfl, trivial⟩⟩⟩
  · intro q; have w := w.2 q
    refine z_ldk (ok := q_isA) (n := 0) (ck_at dt_many 30 rfl) rfl rfl (fun _ => rfl) rfl rfl ?_
    refine z_ldk (ok := q_isA) (n := 0) (ck_at dt_many 31 rfl) rfl rfl (fun _ => rfl) rfl rfl ?_
    refine z_getI (j := 33) (ck_at dt_many 32 rfl) own_many (mf_at 57 rfl) (by decide) rfl ?_
    refine z_virt (k' := k_signAt) (n := 0) (as := [iv (B 33 0)]) (r := []) (ck_at dt_many 33 rfl) own_many (mm_at 6 rfl) vk_signAt rfl nl_signAt rfl rfl rfl rfl ?_
    exact w.mono (Nat.le_refl _) (fun o B' ⟨v, ho, w⟩ => ⟨some (iv v), ho, z_wk (r_many_63_ok hm w) ⟨rfl, ⟨rfl, ⟨rfl, ⟨rfl, trivial⟩⟩⟩⟩⟩)
def r_many_43 (m : Nat) (h0 : qH) (d : Nat) (x1 x2 : Int) (B : qB) (Q : qO → qB → Prop) : Prop := qZ m h0 (d + 1) k_many 48 [some (.ref m), some (iv x1), some (iv x2), some (iv (B 33 0)), none, none, none, none] [] B Q
theorem r_many_43_ok {m : Nat} {h0 : qH} {d : Nat} {x1 x2 : Int} {B : qB} {Q : qO → qB → Prop} (hm : m + 100 < 1000000000) (w : r_many_43 m h0 d x1 x2 B Q) : qZ m h0 (d + 1) k_many 43 [some (.ref m), some (iv x1), some (iv x2), none, none, none, none, none] [] B Q := by
  unfold r_many_43 at w
  refine z_ldk (ok := q_isA) (n := 0) (ck_at dt_many 24 rfl) rfl rfl (fun _ => rfl) rfl rfl ?_
  refine z_getI (j := 33) (ck_at dt_many 25 rfl) own_many (mf_at 57 rfl) (by decide) rfl ?_
  refine z_st1 (ok := q_isI) (n := 3) (L' := [some (.ref m), some (iv x1), some (iv x2), some (iv (B 33 0)), none, none, none, none]) (ck_at dt_many 26 rfl) rfl (fun _ => rfl) (fun _ _ => rfl) rfl nl_many (by decide) rfl rfl ?_
  exact z_wk w ⟨rfl, ⟨rfl, ⟨rfl, ⟨rfl, trivial⟩⟩⟩⟩
def r_many_28 (m : Nat) (h0 : qH) (d : Nat) (x1 s0 : Int) (B : qB) (Q : qO → qB → Prop) : Prop := R32 s0 ∧ (s0 = 0 → r_many_43 m h0 d x1 s0 B Q) ∧ (¬ s0 = 0 → r_many_43 m h0 d x1 s0 (u2 B 33 0 ((B 33 0) + 1)) Q)
theorem r_many_28_ok {m : Nat} {h0 : qH} {d : Nat} {x1 s0 : Int} {B : qB} {Q : qO → qB → Prop} (hm : m + 100 < 1000000000) (w : r_many_28 m h0 d x1 s0 B Q) : qZ m h0 (d + 1) k_many 28 [some (.ref m), some (iv x1), none, none, none, none, none, none] [iv s0] B Q := by
  unfold r_many_28 at w
  obtain ⟨p1, w⟩ := w
  refine z_st1 (ok := q_isI) (n := 2) (L' := [some (.ref m), some (iv x1), some (iv s0), none, none, none, none, none]) (ck_at dt_many 15 rfl) rfl (fun _ => rfl) (fun _ _ => rfl) rfl nl_many (by decide) rfl rfl ?_
  refine z_ldk (ok := q_isI) (n := 2) (ck_at dt_many 16 rfl) rfl rfl (fun _ => rfl) rfl rfl ?_
  refine z_ifz (t := 43) (ck_at dt_many 17 rfl) rfl p1 ?_ ?_
  · intro q; have w := w.1 q
    exact z_wk (r_many_43_ok hm w) ⟨rfl, ⟨rfl, ⟨rfl, trivial⟩⟩⟩
  · intro q; have w := w.2 q
    refine z_ldk (ok := q_isA) (n := 0) (ck_at dt_many 18 rfl) rfl rfl (fun _ => rfl) rfl rfl ?_
    refine z_op (ck_at dt_many 19 rfl) rfl rfl ?_
    refine z_getI (j := 33) (ck_at dt_many 20 rfl) own_many (mf_at 57 rfl) (by decide) rfl ?_
    refine z_op (ck_at dt_many 21 rfl) rfl (o_const _) ?_
    refine z_op (ck_at dt_many 22 rfl) rfl o_iadd ?_
    refine z_putI (j := 33) hm (ck_at dt_many 23 rfl) own_many (mf_at 57 rfl) (by decide) rfl rfl rfl ?_
    exact z_wk (r_many_43_ok hm w) ⟨rfl, ⟨rfl, ⟨rfl, trivial⟩⟩⟩
def r_many_18 (m : Nat) (h0 : qH) (d : Nat) (x1 s0 : Int) (B : qB) (Q : qO → qB → Prop) : Prop := R32 s0 ∧ (¬ s0 = 94 → r_many_28 m h0 d x1 0 B Q) ∧ (s0 = 94 → r_many_28 m h0 d x1 1 B Q)
theorem r_many_18_ok {m : Nat} {h0 : qH} {d : Nat} {x1 s0 : Int} {B : qB} {Q : qO → qB → Prop} (hm : m + 100 < 1000000000) (w : r_many_18 m h0 d x1 s0 B Q) : qZ m h0 (d + 1) k_many 18 [some (.ref m), some (iv x1), none, none, none, none, none, none] [iv s0] B Q := by
  unfold r_many_18 at w
  obtain ⟨p1, w⟩ := w
  refine z_op (ck_at dt_many 10 rfl) rfl (o_bipush _ (by decide)) ?_
  refine z_icmp (t := 27) (ck_at dt_many 11 rfl) rfl p1 ⟨by decide, by decide⟩ ?_ ?_
  · intro q; have w := w.1 q
    refine z_op (ck_at dt_many 14 rfl) rfl (o_const _) ?_
    exact z_wk (r_many_28_ok hm w) ⟨rfl, ⟨rfl, trivial⟩⟩
  · intro q; have w := w.2 q
    refine z_op (ck_at dt_many 12 rfl) rfl (o_const _) ?_
    refine z_goto (t := 28) (ck_at dt_many 13 rfl) rfl ?_
    exact z_wk (r_many_28_ok hm w) ⟨rfl, ⟨rfl, trivial⟩⟩
def r_many_0 (m : Nat) (h0 : qH) (d : Nat) (x1 : Int) (B : qB) (Q : qO → qB → Prop) : Prop := qZ m h0 d k_signAt 0 [some (.ref m), some (iv ((B 33 0) + 1))] [] (u2 B 33 0 ((B 33 0) + 1)) (fun o B' => ∃ v : Int, o = .inl (some (iv v)) ∧ r_many_18 m h0 d x1 v B' Q)
theorem r_many_0_ok {m : Nat} {h0 : qH} {d : Nat} {x1 : Int} {B : qB} {Q : qO → qB → Prop} (hm : m + 100 < 1000000000) (w : r_many_0 m h0 d x1 B Q) : qZ m h0 (d + 1) k_many 0 [some (.ref m), some (iv x1), none, none, none, none, none, none] [] B Q := by
  unfold r_many_0 at w
  refine z_ldk (ok := q_isA) (n := 0) (ck_at dt_many 0 rfl) rfl rfl (fun _ => rfl) rfl rfl ?_
  refine z_op (ck_at dt_many 1 rfl) rfl rfl ?_
  refine z_getI (j := 33) (ck_at dt_many 2 rfl) own_many (mf_at 57 rfl) (by decide) rfl ?_
  refine z_op (ck_at dt_many 3 rfl) rfl (o_const _) ?_
  refine z_op (ck_at dt_many 4 rfl) rfl o_iadd ?_
  refine z_putI (j := 33) hm (ck_at dt_many 5 rfl) own_many (mf_at 57 rfl) (by decide) rfl rfl rfl ?_
  refine z_ldk (ok := q_isA) (n := 0) (ck_at dt_many 6 rfl) rfl rfl (fun _ => rfl) rfl rfl ?_
  refine z_ldk (ok := q_isA) (n := 0) (ck_at dt_many 7 rfl) rfl rfl (fun _ => rfl) rfl rfl ?_
  refine z_getI (j := 33) (ck_at dt_many 8 rfl) own_many (mf_at 57 rfl) (by decide) rfl ?_
  refine z_virt (k' := k_signAt) (n := 0) (as := [iv ((B 33 0) + 1)]) (r := []) (ck_at dt_many 9 rfl) own_many (mm_at 6 rfl) vk_signAt rfl nl_signAt rfl rfl rfl rfl ?_
  exact w.mono (Nat.le_refl _) (fun o B' ⟨v, ho, w⟩ => ⟨some (iv v), ho, z_wk (r_many_18_ok hm w) ⟨rfl, ⟨rfl, trivial⟩⟩⟩)
/-! again(I)V -/
def t_again : List (Nat × Instr × Nat) := [(0, .aload_n 0, 1), (1, .aload_n 0, 1), (2, .getfield 23, 3), (5, .iload_n 1, 1), (6, .iaload, 1), (7, .iconst 1, 1), (8, .isub, 1), (9, .putfield 177, 3), (12, .iconst 0, 1), (13, .istore_n 2, 1), (14, .iload_n 2, 1), (15, .aload_n 0, 1), (16, .getfield 177, 3), (19, .if_icmp .ge 27, 3), (22, .aload_n 0, 1), (23, .getfield 82, 3), (26, .iload_n 2, 1), (27, .aload_n 0, 1), (28, .getfield 17, 3), (31, .sipush 200, 3), (34, .iload_n 1, 1), (35, .imul, 1), (36, .iload_n 2, 1), (37, .iadd, 1), (38, .iaload, 1), (39, .iastore, 1), (40, .iinc 2 1, 3), (43, .goto (-29), 3), (46, .aload_n 0, 1), (47, .invokevirtual 280, 3), (50, .return_, 1)]
set_option maxRecDepth 100000 in
theorem dt_again : q_ck k_again t_again = true := by decide +kernel
def r_again_50 (m : Nat) (h0 : qH) (d : Nat) (B : qB) (Q : qO → qB → Prop) : Prop := Q (.inl none) B
theorem r_again_50_ok {m : Nat} {h0 : qH} {d : Nat} {B : qB} {Q : qO → qB → Prop} (hm : m + 100 < 1000000000) (w : r_again_50 m h0 d B Q) : qZ m h0 (d + 1) k_again 50 [none, none, none] [] B Q := by
  unfold r_again_50 at w
  exact z_ret0 (ck_at dt_again 30 rfl) rt_again w
def r_again_14 (m : Nat) (h0 : qH) (d : Nat) (x1 x2 : Int) (B : qB) (Q : qO → qB → Prop) : Prop := R32 x2 ∧ R32 (B 32 0) ∧ (x2 ≥ B 32 0 → qZ m h0 d k_readPattern 0 [some (.ref m), none, none] [] B (fun o B' => o = .inl none ∧ r_again_50 m h0 d B' Q)) ∧ (x2 < B 32 0 → 0 ≤ (200 * x1) + x2 ∧ (200 * x1) + x2 < 1600 ∧ 0 ≤ x2 ∧ x2 < 200 ∧ qZ m h0 (d + 1) k_again 14 [some (.ref m), some (iv x1), some (iv (x2 + 1))] [] (u2 B 31 x2 (B 4 ((200 * x1) + x2))) Q)
theorem r_again_14_ok {m : Nat} {h0 : qH} {d : Nat} {x1 x2 : Int} {B : qB} {Q : qO → qB → Prop} (hm : m + 100 < 1000000000) (w : r_again_14 m h0 d x1 x2 B Q) : qZ m h0 (d + 1) k_again 14 [some (.ref m), some (iv x1), some (iv x2)] [] B Q := by
  unfold r_again_14 at w
  obtain ⟨p1, p2, w⟩ := w
  refine z_ldk (ok := q_isI) (n := 2) (ck_at dt_again 10 rfl) rfl rfl (fun _ => rfl) rfl rfl ?_
  refine z_ldk (ok := q_isA) (n := 0) (ck_at dt_again 11 rfl) rfl rfl (fun _ => rfl) rfl rfl ?_
  refine z_getI (j := 32) (ck_at dt_again 12 rfl) own_again (mf_at 50 rfl) (by decide) rfl ?_
  refine z_icmp (t := 46) (ck_at dt_again 13 rfl) rfl p1 p2 ?_ ?_
  · intro q; have w := w.1 q
    refine z_ldk (ok := q_isA) (n := 0) (ck_at dt_again 28 rfl) rfl rfl (fun _ => rfl) rfl rfl ?_
    refine z_virt (k' := k_readPattern) (n := 2) (as := []) (r := []) (ck_at dt_again 29 rfl) own_again (mm_at 4 rfl) vk_readPattern rfl nl_readPattern rfl rfl rfl rfl ?_
    exact w.mono (Nat.le_refl _) (fun o B' ⟨ho, w⟩ => ⟨none, ho, z_wk (r_again_50_ok hm w) trivial⟩)
  · intro q; have w := w.2 q
    obtain ⟨p3, p4, p5, p6, w⟩ := w
    refine z_ldk (ok := q_isA) (n := 0) (ck_at dt_again 14 rfl) rfl rfl (fun _ => rfl) rfl rfl ?_
    refine z_getR (j := 31) (a := 22) (ck_at dt_again 15 rfl) own_again (mf_at 23 rfl) (by decide) rfl rfl ?_
    refine z_ldk (ok := q_isI) (n := 2) (ck_at dt_again 16 rfl) rfl rfl (fun _ => rfl) rfl rfl ?_
    refine z_ldk (ok := q_isA) (n := 0) (ck_at dt_again 17 rfl) rfl rfl (fun _ => rfl) rfl rfl ?_
    refine z_getR (j := 4) (a := 1) (ck_at dt_again 18 rfl) own_again (mf_at 2 rfl) (by decide) rfl rfl ?_
    refine z_op (ck_at dt_again 19 rfl) rfl (o_sipush _ (by decide)) ?_
    refine z_ldk (ok := q_isI) (n := 1) (ck_at dt_again 20 rfl) rfl rfl (fun _ => rfl) rfl rfl ?_
    refine z_op (ck_at dt_again 21 rfl) rfl o_imul ?_
    refine z_ldk (ok := q_isI) (n := 2) (ck_at dt_again 22 rfl) rfl rfl (fun _ => rfl) rfl rfl ?_
    refine z_op (ck_at dt_again 23 rfl) rfl o_iadd ?_
    refine z_iald (j := 4) (n := 1600) (ck_at dt_again 24 rfl) rfl rfl rfl p3 p4 ?_
    refine z_iast (j := 31) (n := 200) hm (ck_at dt_again 25 rfl) rfl rfl rfl p5 p6 ?_
    refine z_iinc (n := 2) (L' := [some (.ref m), some (iv x1), some (iv (x2 + 1))]) (ck_at dt_again 26 rfl) rfl nl_again (by decide) rfl rfl ?_
    refine z_goto (t := 14) (ck_at dt_again 27 rfl) rfl ?_
    exact z_wk w ⟨rfl, ⟨rfl, ⟨rfl, trivial⟩⟩⟩
def r_again_0 (m : Nat) (h0 : qH) (d : Nat) (x1 : Int) (B : qB) (Q : qO → qB → Prop) : Prop := 0 ≤ x1 ∧ x1 < 8 ∧ qZ m h0 (d + 1) k_again 14 [some (.ref m), some (iv x1), some (iv 0)] [] (u2 B 32 0 ((B 6 x1) - 1)) Q
theorem r_again_0_ok {m : Nat} {h0 : qH} {d : Nat} {x1 : Int} {B : qB} {Q : qO → qB → Prop} (hm : m + 100 < 1000000000) (w : r_again_0 m h0 d x1 B Q) : qZ m h0 (d + 1) k_again 0 [some (.ref m), some (iv x1), none] [] B Q := by
  unfold r_again_0 at w
  obtain ⟨p1, p2, w⟩ := w
  refine z_ldk (ok := q_isA) (n := 0) (ck_at dt_again 0 rfl) rfl rfl (fun _ => rfl) rfl rfl ?_
  refine z_ldk (ok := q_isA) (n := 0) (ck_at dt_again 1 rfl) rfl rfl (fun _ => rfl) rfl rfl ?_
  refine z_getR (j := 6) (a := 3) (ck_at dt_again 2 rfl) own_again (mf_at 4 rfl) (by decide) rfl rfl ?_
  refine z_ldk (ok := q_isI) (n := 1) (ck_at dt_again 3 rfl) rfl rfl (fun _ => rfl) rfl rfl ?_
  refine z_iald (j := 6) (n := 8) (ck_at dt_again 4 rfl) rfl rfl rfl p1 p2 ?_
  refine z_op (ck_at dt_again 5 rfl) rfl (o_const _) ?_
  refine z_op (ck_at dt_again 6 rfl) rfl o_isub ?_
  refine z_putI (j := 32) hm (ck_at dt_again 7 rfl) own_again (mf_at 50 rfl) (by decide) rfl rfl rfl ?_
  refine z_op (ck_at dt_again 8 rfl) rfl (o_const _) ?_
  refine z_st1 (ok := q_isI) (n := 2) (L' := [some (.ref m), some (iv x1), some (iv 0)]) (ck_at dt_again 9 rfl) rfl (fun _ => rfl) (fun _ _ => rfl) rfl nl_again (by decide) rfl rfl ?_
  exact z_wk w ⟨rfl, ⟨rfl, ⟨rfl, trivial⟩⟩⟩
/-! pattern(I)I -/
def t_pattern : List (Nat × Instr × Nat) := [(0, .aload_n 0, 1), (1, .invokevirtual 277, 3), (4, .aload_n 0, 1), (5, .iconst (-1), 1), (6, .putfield 13, 3), (9, .iload_n 1, 1), (10, .iconst 0, 1), (11, .bipush 7, 2), (13, .invokestatic 170, 3), (16, .ifCond .ne 9, 3), (19, .aload_n 0, 1), (20, .iconst 1, 1), (21, .invokevirtual 162, 3), (24, .ireturn, 1), (25, .aload_n 0, 1), (26, .getfield 174, 3), (29, .sipush 200, 3), (32, .if_icmp .ge 10, 3), (35, .aload_n 0, 1), (36, .getfield 174, 3), (39, .goto 6, 3), (42, .sipush 200, 3), (45, .istore_n 2, 1), (46, .iconst 0, 1), (47, .istore_n 3, 1), (48, .iload_n 3, 1), (49, .iload_n 2, 1), (50, .if_icmp .ge 21, 3), (53, .aload_n 0, 1), (54, .getfield 82, 3), (57, .iload_n 3, 1), (58, .aload_n 0, 1), (59, .getfield 47, 3), (62, .iload_n 3, 1), (63, .iaload, 1), (64, .iastore, 1), (65, .iinc 3 1, 3), (68, .goto (-20), 3), (71, .aload_n 0, 1), (72, .iload_n 2, 1), (73, .putfield 177, 3), (76, .aload_n 0, 1), (77, .invokevirtual 280, 3), (80, .aload_n 0, 1), (81, .getfield 183, 3), (84, .ifCond .ge 20, 3), (87, .aload_n 0, 1), (88, .getfield 174, 3), (91, .sipush 200, 3), (94, .if_icmp .le 10, 3), (97, .aload_n 0, 1), (98, .sipush 200, 3), (101, .putfield 183, 3), (104, .aload_n 0, 1), (105, .getfield 183, 3), (108, .ifCond .lt 17, 3), (111, .aload_n 0, 1), (112, .aload_n 0, 1), (113, .getfield 183, 3), (116, .putfield 13, 3), (119, .aload_n 0, 1), (120, .iconst 2, 1), (121, .invokevirtual 162, 3), (124, .ireturn, 1), (125, .aload_n 0, 1), (126, .getfield 71, 3), (129, .aload_n 0, 1), (130, .getfield 245, 3), (133, .iaload, 1), (134, .sipush 400, 3), (137, .if_icmp .le 9, 3), (140, .aload_n 0, 1), (141, .iconst 3, 1), (142, .invokevirtual 162, 3), (145, .ireturn, 1), (146, .aload_n 0, 1), (147, .iconst 0, 1), (148, .putfield 156, 3), (151, .iconst 0, 1), (152, .istore_n 3, 1), (153, .iload_n 3, 1), (154, .iload_n 2, 1), (155, .if_icmp .ge 27, 3), (158, .aload_n 0, 1), (159, .getfield 17, 3), (162, .sipush 200, 3), (165, .iload_n 1, 1), (166, .imul, 1), (167, .iload_n 3, 1), (168, .iadd, 1), (169, .aload_n 0, 1), (170, .getfield 47, 3), (173, .iload_n 3, 1), (174, .iaload, 1), (175, .iastore, 1), (176, .iinc 3 1, 3), (179, .goto (-26), 3), (182, .aload_n 0, 1), (183, .getfield 23, 3), (186, .iload_n 1, 1), (187, .iload_n 2, 1), (188, .iconst 1, 1), (189, .iadd, 1), (190, .iastore, 1), (191, .aload_n 0, 1), (192, .getfield 26, 3), (195, .iload_n 1, 1), (196, .aload_n 0, 1), (197, .getfield 71, 3), (200, .aload_n 0, 1), (201, .getfield 245, 3), (204, .iaload, 1), (205, .iastore, 1), (206, .aload_n 0, 1), (207, .getfield 29, 3), (210, .iload_n 1, 1), (211, .aload_n 0, 1), (212, .getfield 207, 3), (215, .iastore, 1), (216, .aload_n 0, 1), (217, .getfield 26, 3), (220, .iload_n 1, 1), (221, .iaload, 1), (222, .ireturn, 1)]
set_option maxRecDepth 100000 in
theorem dt_pattern : q_ck k_pattern t_pattern = true := by decide +kernel
def r_pattern_153 (m : Nat) (h0 : qH) (d : Nat) (x1 x2 x3 : Int) (B : qB) (Q : qO → qB → Prop) : Prop := R32 x3 ∧ R32 x2 ∧ (x3 ≥ x2 → 0 ≤ x1 ∧ x1 < 8 ∧ 0 ≤ B 34 0 ∧ B 34 0 < 3000 ∧ Q (.inl (some (iv ((u2 (u2 B 6 x1 (x2 + 1)) 7 x1 (B 24 (B 34 0))) 7 x1)))) (u2 (u2 (u2 B 6 x1 (x2 + 1)) 7 x1 (B 24 (B 34 0))) 8 x1 (B 30 0))) ∧ (x3 < x2 → 0 ≤ x3 ∧ x3 < 1200 ∧ 0 ≤ (200 * x1) + x3 ∧ (200 * x1) + x3 < 1600 ∧ qZ m h0 (d + 1) k_pattern 153 [some (.ref m), some (iv x1), some (iv x2), some (iv (x3 + 1))] [] (u2 B 4 ((200 * x1) + x3) (B 15 x3)) Q)
theorem r_pattern_153_ok {m : Nat} {h0 : qH} {d : Nat} {x1 x2 x3 : Int} {B : qB} {Q : qO → qB → Prop} (hm : m + 100 < 1000000000) (w : r_pattern_153 m h0 d x1 x2 x3 B Q) : qZ m h0 (d + 1) k_pattern 153 [some (.ref m), some (iv x1), some (iv x2), some (iv x3)] [] B Q := by
  unfold r_pattern_153 at w
  obtain ⟨p1, p2, w⟩ := w
  refine z_ldk (ok := q_isI) (n := 3) (ck_at dt_pattern 80 rfl) rfl rfl (fun _ => rfl) rfl rfl ?_
  refine z_ldk (ok := q_isI) (n := 2) (ck_at dt_pattern 81 rfl) rfl rfl (fun _ => rfl) rfl rfl ?_
  refine z_icmp (t := 182) (ck_at dt_pattern 82 rfl) rfl p1 p2 ?_ ?_
  · intro q; have w := w.1 q
    obtain ⟨p3, p4, p5, p6, w⟩ := w
    refine z_ldk (ok := q_isA) (n := 0) (ck_at dt_pattern 97 rfl) rfl rfl (fun _ => rfl) rfl rfl ?_
    refine z_getR (j := 6) (a := 3) (ck_at dt_pattern 98 rfl) own_pattern (mf_at 4 rfl) (by decide) rfl rfl ?_
    refine z_ldk (ok := q_isI) (n := 1) (ck_at dt_pattern 99 rfl) rfl rfl (fun _ => rfl) rfl rfl ?_
    refine z_ldk (ok := q_isI) (n := 2) (ck_at dt_pattern 100 rfl) rfl rfl (fun _ => rfl) rfl rfl ?_
    refine z_op (ck_at dt_pattern 101 rfl) rfl (o_const _) ?_
    refine z_op (ck_at dt_pattern 102 rfl) rfl o_iadd ?_
    refine z_iast (j := 6) (n := 8) hm (ck_at dt_pattern 103 rfl) rfl rfl rfl p3 p4 ?_
    refine z_ldk (ok := q_isA) (n := 0) (ck_at dt_pattern 104 rfl) rfl rfl (fun _ => rfl) rfl rfl ?_
    refine z_getR (j := 7) (a := 4) (ck_at dt_pattern 105 rfl) own_pattern (mf_at 5 rfl) (by decide) rfl rfl ?_
    refine z_ldk (ok := q_isI) (n := 1) (ck_at dt_pattern 106 rfl) rfl rfl (fun _ => rfl) rfl rfl ?_
    refine z_ldk (ok := q_isA) (n := 0) (ck_at dt_pattern 107 rfl) rfl rfl (fun _ => rfl) rfl rfl ?_
    refine z_getR (j := 24) (a := 19) (ck_at dt_pattern 108 rfl) own_pattern (mf_at 20 rfl) (by decide) rfl rfl ?_
    refine z_ldk (ok := q_isA) (n := 0) (ck_at dt_pattern 109 rfl) rfl rfl (fun _ => rfl) rfl rfl ?_
    refine z_getI (j := 34) (ck_at dt_pattern 110 rfl) own_pattern (mf_at 52 rfl) (by decide) rfl ?_
    refine z_iald (j := 24) (n := 3000) (ck_at dt_pattern 111 rfl) rfl rfl rfl p5 p6 ?_
    refine z_iast (j := 7) (n := 8) hm (ck_at dt_pattern 112 rfl) rfl rfl rfl p3 p4 ?_
    refine z_ldk (ok := q_isA) (n := 0) (ck_at dt_pattern 113 rfl) rfl rfl (fun _ => rfl) rfl rfl ?_
    refine z_getR (j := 8) (a := 5) (ck_at dt_pattern 114 rfl) own_pattern (mf_at 6 rfl) (by decide) rfl rfl ?_
    refine z_ldk (ok := q_isI) (n := 1) (ck_at dt_pattern 115 rfl) rfl rfl (fun _ => rfl) rfl rfl ?_
    refine z_ldk (ok := q_isA) (n := 0) (ck_at dt_pattern 116 rfl) rfl rfl (fun _ => rfl) rfl rfl ?_
    refine z_getI (j := 30) (ck_at dt_pattern 117 rfl) own_pattern (mf_at 53 rfl) (by decide) rfl ?_
    refine z_iast (j := 8) (n := 8) hm (ck_at dt_pattern 118 rfl) rfl rfl rfl p3 p4 ?_
    refine z_ldk (ok := q_isA) (n := 0) (ck_at dt_pattern 119 rfl) rfl rfl (fun _ => rfl) rfl rfl ?_
    refine z_getR (j := 7) (a := 4) (ck_at dt_pattern 120 rfl) own_pattern (mf_at 5 rfl) (by decide) rfl rfl ?_
    refine z_ldk (ok := q_isI) (n := 1) (ck_at dt_pattern 121 rfl) rfl rfl (fun _ => rfl) rfl rfl ?_
    refine z_iald (j := 7) (n := 8) (ck_at dt_pattern 122 rfl) rfl rfl rfl p3 p4 ?_
    exact z_retI (ck_at dt_pattern 123 rfl) rt_pattern w
  · intro q; have w := w.2 q
    obtain ⟨p7, p8, p9, p10, w⟩ := w
    refine z_ldk (ok := q_isA) (n := 0) (ck_at dt_pattern 83 rfl) rfl rfl (fun _ => rfl) rfl rfl ?_
    refine z_getR (j := 4) (a := 1) (ck_at dt_pattern 84 rfl) own_pattern (mf_at 2 rfl) (by decide) rfl rfl ?_
    refine z_op (ck_at dt_pattern 85 rfl) rfl (o_sipush _ (by decide)) ?_
    refine z_ldk (ok := q_isI) (n := 1) (ck_at dt_pattern 86 rfl) rfl rfl (fun _ => rfl) rfl rfl ?_
    refine z_op (ck_at dt_pattern 87 rfl) rfl o_imul ?_
    refine z_ldk (ok := q_isI) (n := 3) (ck_at dt_pattern 88 rfl) rfl rfl (fun _ => rfl) rfl rfl ?_
    refine z_op (ck_at dt_pattern 89 rfl) rfl o_iadd ?_
    refine z_ldk (ok := q_isA) (n := 0) (ck_at dt_pattern 90 rfl) rfl rfl (fun _ => rfl) rfl rfl ?_
    refine z_getR (j := 15) (a := 11) (ck_at dt_pattern 91 rfl) own_pattern (mf_at 12 rfl) (by decide) rfl rfl ?_
    refine z_ldk (ok := q_isI) (n := 3) (ck_at dt_pattern 92 rfl) rfl rfl (fun _ => rfl) rfl rfl ?_
    refine z_iald (j := 15) (n := 1200) (ck_at dt_pattern 93 rfl) rfl rfl rfl p7 p8 ?_
    refine z_iast (j := 4) (n := 1600) hm (ck_at dt_pattern 94 rfl) rfl rfl rfl p9 p10 ?_
    refine z_iinc (n := 3) (L' := [some (.ref m), some (iv x1), some (iv x2), some (iv (x3 + 1))]) (ck_at dt_pattern 95 rfl) rfl nl_pattern (by decide) rfl rfl ?_
    refine z_goto (t := 153) (ck_at dt_pattern 96 rfl) rfl ?_
    exact z_wk w ⟨rfl, ⟨rfl, ⟨rfl, ⟨rfl, trivial⟩⟩⟩⟩
def r_pattern_145 (m : Nat) (h0 : qH) (d : Nat) (s0 : Int) (B : qB) (Q : qO → qB → Prop) : Prop := Q (.inl (some (iv s0))) B
theorem r_pattern_145_ok {m : Nat} {h0 : qH} {d : Nat} {s0 : Int} {B : qB} {Q : qO → qB → Prop} (hm : m + 100 < 1000000000) (w : r_pattern_145 m h0 d s0 B Q) : qZ m h0 (d + 1) k_pattern 145 [none, none, none, none] [iv s0] B Q := by
  unfold r_pattern_145 at w
  exact z_retI (ck_at dt_pattern 74 rfl) rt_pattern w
def r_pattern_124 (m : Nat) (h0 : qH) (d : Nat) (s0 : Int) (B : qB) (Q : qO → qB → Prop) : Prop := Q (.inl (some (iv s0))) B
theorem r_pattern_124_ok {m : Nat} {h0 : qH} {d : Nat} {s0 : Int} {B : qB} {Q : qO → qB → Prop} (hm : m + 100 < 1000000000) (w : r_pattern_124 m h0 d s0 B Q) : qZ m h0 (d + 1) k_pattern 124 [none, none, none, none] [iv s0] B Q := by
  unfold r_pattern_124 at w
  exact z_retI (ck_at dt_pattern 63 rfl) rt_pattern w
def r_pattern_104 (m : Nat) (h0 : qH) (d : Nat) (x1 x2 : Int) (B : qB) (Q : qO → qB → Prop) : Prop := R32 (B 35 0) ∧ (B 35 0 < 0 → 0 ≤ B 34 0 ∧ B 34 0 < 3000 ∧ R32 (B 24 (B 34 0)) ∧ (B 24 (B 34 0) ≤ 400 → qZ m h0 (d + 1) k_pattern 153 [some (.ref m), some (iv x1), some (iv x2), some (iv 0)] [] (u2 B 0 0 0) Q) ∧ (B 24 (B 34 0) > 400 → qZ m h0 d k_refuse 0 [some (.ref m), some (iv 3)] [] B (fun o B' => ∃ v : Int, o = .inl (some (iv v)) ∧ r_pattern_145 m h0 d v B' Q))) ∧ (B 35 0 ≥ 0 → qZ m h0 d k_refuse 0 [some (.ref m), some (iv 2)] [] (u2 B 3 0 (B 35 0)) (fun o B' => ∃ v : Int, o = .inl (some (iv v)) ∧ r_pattern_124 m h0 d v B' Q))
theorem r_pattern_104_ok {m : Nat} {h0 : qH} {d : Nat} {x1 x2 : Int} {B : qB} {Q : qO → qB → Prop} (hm : m + 100 < 1000000000) (w : r_pattern_104 m h0 d x1 x2 B Q) : qZ m h0 (d + 1) k_pattern 104 [some (.ref m), some (iv x1), some (iv x2), none] [] B Q := by
  unfold r_pattern_104 at w
  obtain ⟨p1, w⟩ := w
  refine z_ldk (ok := q_isA) (n := 0) (ck_at dt_pattern 53 rfl) rfl rfl (fun _ => rfl) rfl rfl ?_
  refine z_getI (j := 35) (ck_at dt_pattern 54 rfl) own_pattern (mf_at 51 rfl) (by decide) rfl ?_
  refine z_ifz (t := 125) (ck_at dt_pattern 55 rfl) rfl p1 ?_ ?_
  · intro q; have w := w.1 q
    obtain ⟨p2, p3, p4, w⟩ := w
    refine z_ldk (ok := q_isA) (n := 0) (ck_at dt_pattern 64 rfl) rfl rfl (fun _ => rfl) rfl rfl ?_
    refine z_getR (j := 24) (a := 19) (ck_at dt_pattern 65 rfl) own_pattern (mf_at 20 rfl) (by decide) rfl rfl ?_
    refine z_ldk (ok := q_isA) (n := 0) (ck_at dt_pattern 66 rfl) rfl rfl (fun _ => rfl) rfl rfl ?_
    refine z_getI (j := 34) (ck_at dt_pattern 67 rfl) own_pattern (mf_at 52 rfl) (by decide) rfl ?_
    refine z_iald (j := 24) (n := 3000) (ck_at dt_pattern 68 rfl) rfl rfl rfl p2 p3 ?_
    refine z_op (ck_at dt_pattern 69 rfl) rfl (o_sipush _ (by decide)) ?_
    refine z_icmp (t := 146) (ck_at dt_pattern 70 rfl) rfl p4 ⟨by decide, by decide⟩ ?_ ?_
    · intro q; have w := w.1 q
      refine z_ldk (ok := q_isA) (n := 0) (ck_at dt_pattern 75 rfl) rfl rfl (fun _ => rfl) rfl rfl ?_
      refine z_op (ck_at dt_pattern 76 rfl) rfl (o_const _) ?_
      refine z_putI (j := 0) hm (ck_at dt_pattern 77 rfl) own_pattern (mf_at 47 rfl) (by decide) rfl rfl rfl ?_
      refine z_op (ck_at dt_pattern 78 rfl) rfl (o_const _) ?_
      refine z_st1 (ok := q_isI) (n := 3) (L' := [some (.ref m), some (iv x1), some (iv x2), some (iv 0)]) (ck_at dt_pattern 79 rfl) rfl (fun _ => rfl) (fun _ _ => rfl) rfl nl_pattern (by decide) rfl rfl ?_
      exact z_wk w ⟨rfl, ⟨rfl, ⟨rfl, ⟨rfl, trivial⟩⟩⟩⟩
    · intro q; have w := w.2 q
      refine z_ldk (ok := q_isA) (n := 0) (ck_at dt_pattern 71 rfl) rfl rfl (fun _ => rfl) rfl rfl ?_
      refine z_op (ck_at dt_pattern 72 rfl) rfl (o_const _) ?_
      refine z_virt (k' := k_refuse) (n := 0) (as := [iv 3]) (r := []) (ck_at dt_pattern 73 rfl) own_pattern (mm_at 0 rfl) vk_refuse rfl nl_refuse rfl rfl rfl rfl ?_
      exact w.mono (Nat.le_refl _) (fun o B' ⟨v, ho, w⟩ => ⟨some (iv v), ho, z_wk (r_pattern_145_ok hm w) trivial⟩)
  · intro q; have w := w.2 q
    refine z_ldk (ok := q_isA) (n := 0) (ck_at dt_pattern 56 rfl) rfl rfl (fun _ => rfl) rfl rfl ?_
    refine z_ldk (ok := q_isA) (n := 0) (ck_at dt_pattern 57 rfl) rfl rfl (fun _ => rfl) rfl rfl ?_
    refine z_getI (j := 35) (ck_at dt_pattern 58 rfl) own_pattern (mf_at 51 rfl) (by decide) rfl ?_
    refine z_putI (j := 3) hm (ck_at dt_pattern 59 rfl) own_pattern (mf_at 1 rfl) (by decide) rfl rfl rfl ?_
    refine z_ldk (ok := q_isA) (n := 0) (ck_at dt_pattern 60 rfl) rfl rfl (fun _ => rfl) rfl rfl ?_
    refine z_op (ck_at dt_pattern 61 rfl) rfl (o_const _) ?_
    refine z_virt (k' := k_refuse) (n := 0) (as := [iv 2]) (r := []) (ck_at dt_pattern 62 rfl) own_pattern (mm_at 0 rfl) vk_refuse rfl nl_refuse rfl rfl rfl rfl ?_
    exact w.mono (Nat.le_refl _) (fun o B' ⟨v, ho, w⟩ => ⟨some (iv v), ho, z_wk (r_pattern_124_ok hm w) trivial⟩)
def r_pattern_80 (m : Nat) (h0 : qH) (d : Nat) (x1 x2 : Int) (B : qB) (Q : qO → qB → Prop) : Prop := R32 (B 35 0) ∧ (B 35 0 ≥ 0 → r_pattern_104 m h0 d x1 x2 B Q) ∧ (B 35 0 < 0 → R32 (B 16 0) ∧ (B 16 0 ≤ 200 → r_pattern_104 m h0 d x1 x2 B Q) ∧ (B 16 0 > 200 → r_pattern_104 m h0 d x1 x2 (u2 B 35 0 200) Q))
theorem r_pattern_80_ok {m : Nat} {h0 : qH} {d : Nat} {x1 x2 : Int} {B : qB} {Q : qO → qB → Prop} (hm : m + 100 < 1000000000) (w : r_pattern_80 m h0 d x1 x2 B Q) : qZ m h0 (d + 1) k_pattern 80 [some (.ref m), some (iv x1), some (iv x2), none] [] B Q := by
  unfold r_pattern_80 at w
  obtain ⟨p1, w⟩ := w
  refine z_ldk (ok := q_isA) (n := 0) (ck_at dt_pattern 43 rfl) rfl rfl (fun _ => rfl) rfl rfl ?_
  refine z_getI (j := 35) (ck_at dt_pattern 44 rfl) own_pattern (mf_at 51 rfl) (by decide) rfl ?_
  refine z_ifz (t := 104) (ck_at dt_pattern 45 rfl) rfl p1 ?_ ?_
  · intro q; have w := w.1 q
    exact z_wk (r_pattern_104_ok hm w) ⟨rfl, ⟨rfl, ⟨rfl, trivial⟩⟩⟩
  · intro q; have w := w.2 q
    obtain ⟨p2, w⟩ := w
    refine z_ldk (ok := q_isA) (n := 0) (ck_at dt_pattern 46 rfl) rfl rfl (fun _ => rfl) rfl rfl ?_
    refine z_getI (j := 16) (ck_at dt_pattern 47 rfl) own_pattern (mf_at 49 rfl) (by decide) rfl ?_
    refine z_op (ck_at dt_pattern 48 rfl) rfl (o_sipush _ (by decide)) ?_
    refine z_icmp (t := 104) (ck_at dt_pattern 49 rfl) rfl p2 ⟨by decide, by decide⟩ ?_ ?_
    · intro q; have w := w.1 q
      exact z_wk (r_pattern_104_ok hm w) ⟨rfl, ⟨rfl, ⟨rfl, trivial⟩⟩⟩
    · intro q; have w := w.2 q
      refine z_ldk (ok := q_isA) (n := 0) (ck_at dt_pattern 50 rfl) rfl rfl (fun _ => rfl) rfl rfl ?_
      refine z_op (ck_at dt_pattern 51 rfl) rfl (o_sipush _ (by decide)) ?_
      refine z_putI (j := 35) hm (ck_at dt_pattern 52 rfl) own_pattern (mf_at 51 rfl) (by decide) rfl rfl rfl ?_
      exact z_wk (r_pattern_104_ok hm w) ⟨rfl, ⟨rfl, ⟨rfl, trivial⟩⟩⟩
def r_pattern_48 (m : Nat) (h0 : qH) (d : Nat) (x1 x2 x3 : Int) (B : qB) (Q : qO → qB → Prop) : Prop := R32 x3 ∧ R32 x2 ∧ (x3 ≥ x2 → qZ m h0 d k_readPattern 0 [some (.ref m), none, none] [] (u2 B 32 0 x2) (fun o B' => o = .inl none ∧ r_pattern_80 m h0 d x1 x2 B' Q)) ∧ (x3 < x2 → 0 ≤ x3 ∧ x3 < 1200 ∧ x3 < 200 ∧ qZ m h0 (d + 1) k_pattern 48 [some (.ref m), some (iv x1), some (iv x2), some (iv (x3 + 1))] [] (u2 B 31 x3 (B 15 x3)) Q)
theorem r_pattern_48_ok {m : Nat} {h0 : qH} {d : Nat} {x1 x2 x3 : Int} {B : qB} {Q : qO → qB → Prop} (hm : m + 100 < 1000000000) (w : r_pattern_48 m h0 d x1 x2 x3 B Q) : qZ m h0 (d + 1) k_pattern 48 [some (.ref m), some (iv x1), some (iv x2), some (iv x3)] [] B Q := by
  unfold r_pattern_48 at w
  obtain ⟨p1, p2, w⟩ := w
  refine z_ldk (ok := q_isI) (n := 3) (ck_at dt_pattern 25 rfl) rfl rfl (fun _ => rfl) rfl rfl ?_
  refine z_ldk (ok := q_isI) (n := 2) (ck_at dt_pattern 26 rfl) rfl rfl (fun _ => rfl) rfl rfl ?_
  refine z_icmp (t := 71) (ck_at dt_pattern 27 rfl) rfl p1 p2 ?_ ?_
  · intro q; have w := w.1 q
    refine z_ldk (ok := q_isA) (n := 0) (ck_at dt_pattern 38 rfl) rfl rfl (fun _ => rfl) rfl rfl ?_
    refine z_ldk (ok := q_isI) (n := 2) (ck_at dt_pattern 39 rfl) rfl rfl (fun _ => rfl) rfl rfl ?_
    refine z_putI (j := 32) hm (ck_at dt_pattern 40 rfl) own_pattern (mf_at 50 rfl) (by decide) rfl rfl rfl ?_
    refine z_ldk (ok := q_isA) (n := 0) (ck_at dt_pattern 41 rfl) rfl rfl (fun _ => rfl) rfl rfl ?_
    refine z_virt (k' := k_readPattern) (n := 2) (as := []) (r := []) (ck_at dt_pattern 42 rfl) own_pattern (mm_at 4 rfl) vk_readPattern rfl nl_readPattern rfl rfl rfl rfl ?_
    exact w.mono (Nat.le_refl _) (fun o B' ⟨ho, w⟩ => ⟨none, ho, z_wk (r_pattern_80_ok hm w) ⟨rfl, ⟨rfl, ⟨rfl, trivial⟩⟩⟩⟩)
  · intro q; have w := w.2 q
    obtain ⟨p3, p4, p5, w⟩ := w
    refine z_ldk (ok := q_isA) (n := 0) (ck_at dt_pattern 28 rfl) rfl rfl (fun _ => rfl) rfl rfl ?_
    refine z_getR (j := 31) (a := 22) (ck_at dt_pattern 29 rfl) own_pattern (mf_at 23 rfl) (by decide) rfl rfl ?_
    refine z_ldk (ok := q_isI) (n := 3) (ck_at dt_pattern 30 rfl) rfl rfl (fun _ => rfl) rfl rfl ?_
    refine z_ldk (ok := q_isA) (n := 0) (ck_at dt_pattern 31 rfl) rfl rfl (fun _ => rfl) rfl rfl ?_
    refine z_getR (j := 15) (a := 11) (ck_at dt_pattern 32 rfl) own_pattern (mf_at 12 rfl) (by decide) rfl rfl ?_
    refine z_ldk (ok := q_isI) (n := 3) (ck_at dt_pattern 33 rfl) rfl rfl (fun _ => rfl) rfl rfl ?_
    refine z_iald (j := 15) (n := 1200) (ck_at dt_pattern 34 rfl) rfl rfl rfl p3 p4 ?_
    refine z_iast (j := 31) (n := 200) hm (ck_at dt_pattern 35 rfl) rfl rfl rfl p3 p5 ?_
    refine z_iinc (n := 3) (L' := [some (.ref m), some (iv x1), some (iv x2), some (iv (x3 + 1))]) (ck_at dt_pattern 36 rfl) rfl nl_pattern (by decide) rfl rfl ?_
    refine z_goto (t := 48) (ck_at dt_pattern 37 rfl) rfl ?_
    exact z_wk w ⟨rfl, ⟨rfl, ⟨rfl, ⟨rfl, trivial⟩⟩⟩⟩
def r_pattern_45 (m : Nat) (h0 : qH) (d : Nat) (x1 s0 : Int) (B : qB) (Q : qO → qB → Prop) : Prop := qZ m h0 (d + 1) k_pattern 48 [some (.ref m), some (iv x1), some (iv s0), some (iv 0)] [] B Q
theorem r_pattern_45_ok {m : Nat} {h0 : qH} {d : Nat} {x1 s0 : Int} {B : qB} {Q : qO → qB → Prop} (hm : m + 100 < 1000000000) (w : r_pattern_45 m h0 d x1 s0 B Q) : qZ m h0 (d + 1) k_pattern 45 [some (.ref m), some (iv x1), none, none] [iv s0] B Q := by
  unfold r_pattern_45 at w
  refine z_st1 (ok := q_isI) (n := 2) (L' := [some (.ref m), some (iv x1), some (iv s0), none]) (ck_at dt_pattern 22 rfl) rfl (fun _ => rfl) (fun _ _ => rfl) rfl nl_pattern (by decide) rfl rfl ?_
  refine z_op (ck_at dt_pattern 23 rfl) rfl (o_const _) ?_
  refine z_st1 (ok := q_isI) (n := 3) (L' := [some (.ref m), some (iv x1), some (iv s0), some (iv 0)]) (ck_at dt_pattern 24 rfl) rfl (fun _ => rfl) (fun _ _ => rfl) rfl nl_pattern (by decide) rfl rfl ?_
  exact z_wk w ⟨rfl, ⟨rfl, ⟨rfl, ⟨rfl, trivial⟩⟩⟩⟩
def r_pattern_24 (m : Nat) (h0 : qH) (d : Nat) (s0 : Int) (B : qB) (Q : qO → qB → Prop) : Prop := Q (.inl (some (iv s0))) B
theorem r_pattern_24_ok {m : Nat} {h0 : qH} {d : Nat} {s0 : Int} {B : qB} {Q : qO → qB → Prop} (hm : m + 100 < 1000000000) (w : r_pattern_24 m h0 d s0 B Q) : qZ m h0 (d + 1) k_pattern 24 [none, none, none, none] [iv s0] B Q := by
  unfold r_pattern_24 at w
  exact z_retI (ck_at dt_pattern 13 rfl) rt_pattern w
def r_pattern_16 (m : Nat) (h0 : qH) (d : Nat) (x1 s0 : Int) (B : qB) (Q : qO → qB → Prop) : Prop := R32 s0 ∧ (¬ s0 = 0 → R32 (B 16 0) ∧ (B 16 0 ≥ 200 → r_pattern_45 m h0 d x1 200 B Q) ∧ (B 16 0 < 200 → r_pattern_45 m h0 d x1 (B 16 0) B Q)) ∧ (s0 = 0 → qZ m h0 d k_refuse 0 [some (.ref m), some (iv 1)] [] B (fun o B' => ∃ v : Int, o = .inl (some (iv v)) ∧ r_pattern_24 m h0 d v B' Q))
theorem r_pattern_16_ok {m : Nat} {h0 : qH} {d : Nat} {x1 s0 : Int} {B : qB} {Q : qO → qB → Prop} (hm : m + 100 < 1000000000) (w : r_pattern_16 m h0 d x1 s0 B Q) : qZ m h0 (d + 1) k_pattern 16 [some (.ref m), some (iv x1), none, none] [iv s0] B Q := by
  unfold r_pattern_16 at w
  obtain ⟨p1, w⟩ := w
  refine z_ifz (t := 25) (ck_at dt_pattern 9 rfl) rfl p1 ?_ ?_
  · intro q; have w := w.1 q
    obtain ⟨p2, w⟩ := w
    refine z_ldk (ok := q_isA) (n := 0) (ck_at dt_pattern 14 rfl) rfl rfl (fun _ => rfl) rfl rfl ?_
    refine z_getI (j := 16) (ck_at dt_pattern 15 rfl) own_pattern (mf_at 49 rfl) (by decide) rfl ?_
    refine z_op (ck_at dt_pattern 16 rfl) rfl (o_sipush _ (by decide)) ?_
    refine z_icmp (t := 42) (ck_at dt_pattern 17 rfl) rfl p2 ⟨by decide, by decide⟩ ?_ ?_
    · intro q; have w := w.1 q
      refine z_op (ck_at dt_pattern 21 rfl) rfl (o_sipush _ (by decide)) ?_
      exact z_wk (r_pattern_45_ok hm w) ⟨rfl, ⟨rfl, trivial⟩⟩
    · intro q; have w := w.2 q
      refine z_ldk (ok := q_isA) (n := 0) (ck_at dt_pattern 18 rfl) rfl rfl (fun _ => rfl) rfl rfl ?_
      refine z_getI (j := 16) (ck_at dt_pattern 19 rfl) own_pattern (mf_at 49 rfl) (by decide) rfl ?_
      refine z_goto (t := 45) (ck_at dt_pattern 20 rfl) rfl ?_
      exact z_wk (r_pattern_45_ok hm w) ⟨rfl, ⟨rfl, trivial⟩⟩
  · intro q; have w := w.2 q
    refine z_ldk (ok := q_isA) (n := 0) (ck_at dt_pattern 10 rfl) rfl rfl (fun _ => rfl) rfl rfl ?_
    refine z_op (ck_at dt_pattern 11 rfl) rfl (o_const _) ?_
    refine z_virt (k' := k_refuse) (n := 0) (as := [iv 1]) (r := []) (ck_at dt_pattern 12 rfl) own_pattern (mm_at 0 rfl) vk_refuse rfl nl_refuse rfl rfl rfl rfl ?_
    exact w.mono (Nat.le_refl _) (fun o B' ⟨v, ho, w⟩ => ⟨some (iv v), ho, z_wk (r_pattern_24_ok hm w) trivial⟩)
def r_pattern_4 (m : Nat) (h0 : qH) (d : Nat) (x1 : Int) (B : qB) (Q : qO → qB → Prop) : Prop := qZ m h0 d k_in 0 [some (iv x1), some (iv 0), some (iv 7)] [] (u2 B 3 0 (-1)) (fun o B' => ∃ v : Int, o = .inl (some (iv v)) ∧ r_pattern_16 m h0 d x1 v B' Q)
theorem r_pattern_4_ok {m : Nat} {h0 : qH} {d : Nat} {x1 : Int} {B : qB} {Q : qO → qB → Prop} (hm : m + 100 < 1000000000) (w : r_pattern_4 m h0 d x1 B Q) : qZ m h0 (d + 1) k_pattern 4 [some (.ref m), some (iv x1), none, none] [] B Q := by
  unfold r_pattern_4 at w
  refine z_ldk (ok := q_isA) (n := 0) (ck_at dt_pattern 2 rfl) rfl rfl (fun _ => rfl) rfl rfl ?_
  refine z_op (ck_at dt_pattern 3 rfl) rfl (o_const _) ?_
  refine z_putI (j := 3) hm (ck_at dt_pattern 4 rfl) own_pattern (mf_at 1 rfl) (by decide) rfl rfl rfl ?_
  refine z_ldk (ok := q_isI) (n := 1) (ck_at dt_pattern 5 rfl) rfl rfl (fun _ => rfl) rfl rfl ?_
  refine z_op (ck_at dt_pattern 6 rfl) rfl (o_const _) ?_
  refine z_op (ck_at dt_pattern 7 rfl) rfl (o_bipush _ (by decide)) ?_
  refine z_stat (k' := k_in) (n := 0) (as := [iv x1, iv 0, iv 7]) (r := []) (ck_at dt_pattern 8 rfl) own_pattern (mm_at 2 rfl) (ms_at 0 rfl) vk_in rfl nl_in rfl rfl rfl rfl ?_
  exact w.mono (Nat.le_refl _) (fun o B' ⟨v, ho, w⟩ => ⟨some (iv v), ho, z_wk (r_pattern_16_ok hm w) ⟨rfl, ⟨rfl, trivial⟩⟩⟩)
def r_pattern_0 (m : Nat) (h0 : qH) (d : Nat) (x1 : Int) (B : qB) (Q : qO → qB → Prop) : Prop := qZ m h0 d k_take 0 [some (.ref m), none] [] B (fun o B' => o = .inl none ∧ r_pattern_4 m h0 d x1 B' Q)
theorem r_pattern_0_ok {m : Nat} {h0 : qH} {d : Nat} {x1 : Int} {B : qB} {Q : qO → qB → Prop} (hm : m + 100 < 1000000000) (w : r_pattern_0 m h0 d x1 B Q) : qZ m h0 (d + 1) k_pattern 0 [some (.ref m), some (iv x1), none, none] [] B Q := by
  unfold r_pattern_0 at w
  refine z_ldk (ok := q_isA) (n := 0) (ck_at dt_pattern 0 rfl) rfl rfl (fun _ => rfl) rfl rfl ?_
  refine z_virt (k' := k_take) (n := 1) (as := []) (r := []) (ck_at dt_pattern 1 rfl) own_pattern (mm_at 3 rfl) vk_take rfl nl_take rfl rfl rfl rfl ?_
  exact w.mono (Nat.le_refl _) (fun o B' ⟨ho, w⟩ => ⟨none, ho, z_wk (r_pattern_4_ok hm w) ⟨rfl, ⟨rfl, trivial⟩⟩⟩)
/-! alone(I)I -/
def t_alone : List (Nat × Instr × Nat) := [(0, .aload_n 0, 1), (1, .iload_n 1, 1), (2, .invokevirtual 371, 3), (5, .aload_n 0, 1), (6, .getfield 23, 3), (9, .iload_n 1, 1), (10, .iaload, 1), (11, .iconst 1, 1), (12, .if_icmp .le 16, 3), (15, .aload_n 0, 1), (16, .getfield 17, 3), (19, .sipush 200, 3), (22, .iload_n 1, 1), (23, .imul, 1), (24, .iaload, 1), (25, .goto 4, 3), (28, .iconst (-1), 1), (29, .istore_n 2, 1), (30, .iload_n 2, 1), (31, .bipush 92, 2), (33, .if_icmp .ne 25, 3), (36, .aload_n 0, 1), (37, .getfield 17, 3), (40, .sipush 200, 3), (43, .iload_n 1, 1), (44, .imul, 1), (45, .iconst 1, 1), (46, .iadd, 1), (47, .iaload, 1), (48, .invokestatic 268, 3), (51, .ifCond .eq 7, 3), (54, .iconst 1, 1), (55, .goto 4, 3), (58, .iconst 0, 1), (59, .istore_n 3, 1), (60, .iload_n 2, 1), (61, .bipush 91, 2), (63, .if_icmp .eq 15, 3), (66, .iload_n 2, 1), (67, .bipush 46, 2), (69, .if_icmp .eq 9, 3), (72, .iload_n 3, 1), (73, .ifCond .ne 5, 3), (76, .iconst (-1), 1), (77, .ireturn, 1), (78, .aload_n 0, 1), (79, .getfield 50, 3), (82, .aload_n 0, 1), (83, .getfield 245, 3), (86, .iaload, 1), (87, .iconst 1, 1), (88, .if_icmp .ne 39, 3), (91, .aload_n 0, 1), (92, .getfield 50, 3), (95, .aload_n 0, 1), (96, .getfield 53, 3), (99, .aload_n 0, 1), (100, .getfield 245, 3), (103, .iaload, 1), (104, .iaload, 1), (105, .bipush 11, 2), (107, .if_icmp .ne 20, 3), (110, .aload_n 0, 1), (111, .getfield 50, 3), (114, .aload_n 0, 1), (115, .getfield 56, 3), (118, .aload_n 0, 1), (119, .getfield 245, 3), (122, .iaload, 1), (123, .iaload, 1), (124, .ifCond .eq 5, 3), (127, .iconst (-1), 1), (128, .ireturn, 1), (129, .aload_n 0, 1), (130, .getfield 68, 3), (133, .aload_n 0, 1), (134, .getfield 56, 3), (137, .aload_n 0, 1), (138, .getfield 245, 3), (141, .iaload, 1), (142, .iaload, 1), (143, .ireturn, 1)]
set_option maxRecDepth 100000 in
theorem dt_alone : q_ck k_alone t_alone = true := by decide +kernel
def r_alone_78 (m : Nat) (h0 : qH) (d : Nat) (B : qB) (Q : qO → qB → Prop) : Prop := 0 ≤ B 34 0 ∧ B 34 0 < 3000 ∧ R32 (B 17 (B 34 0)) ∧ (¬ B 17 (B 34 0) = 1 → Q (.inl (some (iv (-1)))) B) ∧ (B 17 (B 34 0) = 1 → 0 ≤ B 18 (B 34 0) ∧ B 18 (B 34 0) < 3000 ∧ R32 (B 17 (B 18 (B 34 0))) ∧ (¬ B 17 (B 18 (B 34 0)) = 11 → Q (.inl (some (iv (-1)))) B) ∧ (B 17 (B 18 (B 34 0)) = 11 → 0 ≤ B 19 (B 34 0) ∧ B 19 (B 34 0) < 3000 ∧ R32 (B 17 (B 19 (B 34 0))) ∧ (B 17 (B 19 (B 34 0)) = 0 → Q (.inl (some (iv (B 23 (B 19 (B 34 0)))))) B) ∧ (¬ B 17 (B 19 (B 34 0)) = 0 → Q (.inl (some (iv (-1)))) B)))
theorem r_alone_78_ok {m : Nat} {h0 : qH} {d : Nat} {B : qB} {Q : qO → qB → Prop} (hm : m + 100 < 1000000000) (w : r_alone_78 m h0 d B Q) : qZ m h0 (d + 1) k_alone 78 [some (.ref m), none, none, none] [] B Q := by
  unfold r_alone_78 at w
  obtain ⟨p1, p2, p3, w⟩ := w
  refine z_ldk (ok := q_isA) (n := 0) (ck_at dt_alone 45 rfl) rfl rfl (fun _ => rfl) rfl rfl ?_
  refine z_getR (j := 17) (a := 12) (ck_at dt_alone 46 rfl) own_alone (mf_at 13 rfl) (by decide) rfl rfl ?_
  refine z_ldk (ok := q_isA) (n := 0) (ck_at dt_alone 47 rfl) rfl rfl (fun _ => rfl) rfl rfl ?_
  refine z_getI (j := 34) (ck_at dt_alone 48 rfl) own_alone (mf_at 52 rfl) (by decide) rfl ?_
  refine z_iald (j := 17) (n := 3000) (ck_at dt_alone 49 rfl) rfl rfl rfl p1 p2 ?_
  refine z_op (ck_at dt_alone 50 rfl) rfl (o_const _) ?_
  refine z_icmp (t := 127) (ck_at dt_alone 51 rfl) rfl p3 ⟨by decide, by decide⟩ ?_ ?_
  · intro q; have w := w.1 q
    refine z_op (ck_at dt_alone 71 rfl) rfl (o_const _) ?_
    exact z_retI (ck_at dt_alone 72 rfl) rt_alone w
  · intro q; have w := w.2 q
    obtain ⟨p4, p5, p6, w⟩ := w
    refine z_ldk (ok := q_isA) (n := 0) (ck_at dt_alone 52 rfl) rfl rfl (fun _ => rfl) rfl rfl ?_
    refine z_getR (j := 17) (a := 12) (ck_at dt_alone 53 rfl) own_alone (mf_at 13 rfl) (by decide) rfl rfl ?_
    refine z_ldk (ok := q_isA) (n := 0) (ck_at dt_alone 54 rfl) rfl rfl (fun _ => rfl) rfl rfl ?_
    refine z_getR (j := 18) (a := 13) (ck_at dt_alone 55 rfl) own_alone (mf_at 14 rfl) (by decide) rfl rfl ?_
    refine z_ldk (ok := q_isA) (n := 0) (ck_at dt_alone 56 rfl) rfl rfl (fun _ => rfl) rfl rfl ?_
    refine z_getI (j := 34) (ck_at dt_alone 57 rfl) own_alone (mf_at 52 rfl) (by decide) rfl ?_
    refine z_iald (j := 18) (n := 3000) (ck_at dt_alone 58 rfl) rfl rfl rfl p1 p2 ?_
    refine z_iald (j := 17) (n := 3000) (ck_at dt_alone 59 rfl) rfl rfl rfl p4 p5 ?_
    refine z_op (ck_at dt_alone 60 rfl) rfl (o_bipush _ (by decide)) ?_
    refine z_icmp (t := 127) (ck_at dt_alone 61 rfl) rfl p6 ⟨by decide, by decide⟩ ?_ ?_
    · intro q; have w := w.1 q
      refine z_op (ck_at dt_alone 71 rfl) rfl (o_const _) ?_
      exact z_retI (ck_at dt_alone 72 rfl) rt_alone w
    · intro q; have w := w.2 q
      obtain ⟨p7, p8, p9, w⟩ := w
      refine z_ldk (ok := q_isA) (n := 0) (ck_at dt_alone 62 rfl) rfl rfl (fun _ => rfl) rfl rfl ?_
      refine z_getR (j := 17) (a := 12) (ck_at dt_alone 63 rfl) own_alone (mf_at 13 rfl) (by decide) rfl rfl ?_
      refine z_ldk (ok := q_isA) (n := 0) (ck_at dt_alone 64 rfl) rfl rfl (fun _ => rfl) rfl rfl ?_
      refine z_getR (j := 19) (a := 14) (ck_at dt_alone 65 rfl) own_alone (mf_at 15 rfl) (by decide) rfl rfl ?_
      refine z_ldk (ok := q_isA) (n := 0) (ck_at dt_alone 66 rfl) rfl rfl (fun _ => rfl) rfl rfl ?_
      refine z_getI (j := 34) (ck_at dt_alone 67 rfl) own_alone (mf_at 52 rfl) (by decide) rfl ?_
      refine z_iald (j := 19) (n := 3000) (ck_at dt_alone 68 rfl) rfl rfl rfl p1 p2 ?_
      refine z_iald (j := 17) (n := 3000) (ck_at dt_alone 69 rfl) rfl rfl rfl p7 p8 ?_
      refine z_ifz (t := 129) (ck_at dt_alone 70 rfl) rfl p9 ?_ ?_
      · intro q; have w := w.1 q
        refine z_ldk (ok := q_isA) (n := 0) (ck_at dt_alone 73 rfl) rfl rfl (fun _ => rfl) rfl rfl ?_
        refine z_getR (j := 23) (a := 18) (ck_at dt_alone 74 rfl) own_alone (mf_at 19 rfl) (by decide) rfl rfl ?_
        refine z_ldk (ok := q_isA) (n := 0) (ck_at dt_alone 75 rfl) rfl rfl (fun _ => rfl) rfl rfl ?_
        refine z_getR (j := 19) (a := 14) (ck_at dt_alone 76 rfl) own_alone (mf_at 15 rfl) (by decide) rfl rfl ?_
        refine z_ldk (ok := q_isA) (n := 0) (ck_at dt_alone 77 rfl) rfl rfl (fun _ => rfl) rfl rfl ?_
        refine z_getI (j := 34) (ck_at dt_alone 78 rfl) own_alone (mf_at 52 rfl) (by decide) rfl ?_
        refine z_iald (j := 19) (n := 3000) (ck_at dt_alone 79 rfl) rfl rfl rfl p1 p2 ?_
        refine z_iald (j := 23) (n := 3000) (ck_at dt_alone 80 rfl) rfl rfl rfl p7 p8 ?_
        exact z_retI (ck_at dt_alone 81 rfl) rt_alone w
      · intro q; have w := w.2 q
        refine z_op (ck_at dt_alone 71 rfl) rfl (o_const _) ?_
        exact z_retI (ck_at dt_alone 72 rfl) rt_alone w
def r_alone_59 (m : Nat) (h0 : qH) (d : Nat) (x2 s0 : Int) (B : qB) (Q : qO → qB → Prop) : Prop := R32 x2 ∧ (x2 = 91 → r_alone_78 m h0 d B Q) ∧ (¬ x2 = 91 → (x2 = 46 → r_alone_78 m h0 d B Q) ∧ (¬ x2 = 46 → R32 s0 ∧ (¬ s0 = 0 → r_alone_78 m h0 d B Q) ∧ (s0 = 0 → Q (.inl (some (iv (-1)))) B)))
theorem r_alone_59_ok {m : Nat} {h0 : qH} {d : Nat} {x2 s0 : Int} {B : qB} {Q : qO → qB → Prop} (hm : m + 100 < 1000000000) (w : r_alone_59 m h0 d x2 s0 B Q) : qZ m h0 (d + 1) k_alone 59 [some (.ref m), none, some (iv x2), none] [iv s0] B Q := by
  unfold r_alone_59 at w
  obtain ⟨p1, w⟩ := w
  refine z_st1 (ok := q_isI) (n := 3) (L' := [some (.ref m), none, some (iv x2), some (iv s0)]) (ck_at dt_alone 34 rfl) rfl (fun _ => rfl) (fun _ _ => rfl) rfl nl_alone (by decide) rfl rfl ?_
  refine z_ldk (ok := q_isI) (n := 2) (ck_at dt_alone 35 rfl) rfl rfl (fun _ => rfl) rfl rfl ?_
  refine z_op (ck_at dt_alone 36 rfl) rfl (o_bipush _ (by decide)) ?_
  refine z_icmp (t := 78) (ck_at dt_alone 37 rfl) rfl p1 ⟨by decide, by decide⟩ ?_ ?_
  · intro q; have w := w.1 q
    exact z_wk (r_alone_78_ok hm w) ⟨rfl, trivial⟩
  · intro q; have w := w.2 q
    refine z_ldk (ok := q_isI) (n := 2) (ck_at dt_alone 38 rfl) rfl rfl (fun _ => rfl) rfl rfl ?_
    refine z_op (ck_at dt_alone 39 rfl) rfl (o_bipush _ (by decide)) ?_
    refine z_icmp (t := 78) (ck_at dt_alone 40 rfl) rfl p1 ⟨by decide, by decide⟩ ?_ ?_
    · intro q; have w := w.1 q
      exact z_wk (r_alone_78_ok hm w) ⟨rfl, trivial⟩
    · intro q; have w := w.2 q
      obtain ⟨p2, w⟩ := w
      refine z_ldk (ok := q_isI) (n := 3) (ck_at dt_alone 41 rfl) rfl rfl (fun _ => rfl) rfl rfl ?_
      refine z_ifz (t := 78) (ck_at dt_alone 42 rfl) rfl p2 ?_ ?_
      · intro q; have w := w.1 q
        exact z_wk (r_alone_78_ok hm w) ⟨rfl, trivial⟩
      · intro q; have w := w.2 q
        refine z_op (ck_at dt_alone 43 rfl) rfl (o_const _) ?_
        exact z_retI (ck_at dt_alone 44 rfl) rt_alone w
def r_alone_58 (m : Nat) (h0 : qH) (d : Nat) (x2 : Int) (B : qB) (Q : qO → qB → Prop) : Prop := r_alone_59 m h0 d x2 0 B Q
theorem r_alone_58_ok {m : Nat} {h0 : qH} {d : Nat} {x2 : Int} {B : qB} {Q : qO → qB → Prop} (hm : m + 100 < 1000000000) (w : r_alone_58 m h0 d x2 B Q) : qZ m h0 (d + 1) k_alone 58 [some (.ref m), none, some (iv x2), none] [] B Q := by
  unfold r_alone_58 at w
  refine z_op (ck_at dt_alone 33 rfl) rfl (o_const _) ?_
  exact z_wk (r_alone_59_ok hm w) ⟨rfl, ⟨rfl, trivial⟩⟩
def r_alone_51 (m : Nat) (h0 : qH) (d : Nat) (x2 s0 : Int) (B : qB) (Q : qO → qB → Prop) : Prop := R32 s0 ∧ (s0 = 0 → r_alone_58 m h0 d x2 B Q) ∧ (¬ s0 = 0 → r_alone_59 m h0 d x2 1 B Q)
theorem r_alone_51_ok {m : Nat} {h0 : qH} {d : Nat} {x2 s0 : Int} {B : qB} {Q : qO → qB → Prop} (hm : m + 100 < 1000000000) (w : r_alone_51 m h0 d x2 s0 B Q) : qZ m h0 (d + 1) k_alone 51 [some (.ref m), none, some (iv x2), none] [iv s0] B Q := by
  unfold r_alone_51 at w
  obtain ⟨p1, w⟩ := w
  refine z_ifz (t := 58) (ck_at dt_alone 30 rfl) rfl p1 ?_ ?_
  · intro q; have w := w.1 q
    exact z_wk (r_alone_58_ok hm w) ⟨rfl, ⟨rfl, trivial⟩⟩
  · intro q; have w := w.2 q
    refine z_op (ck_at dt_alone 31 rfl) rfl (o_const _) ?_
    refine z_goto (t := 59) (ck_at dt_alone 32 rfl) rfl ?_
    exact z_wk (r_alone_59_ok hm w) ⟨rfl, ⟨rfl, trivial⟩⟩
def r_alone_29 (m : Nat) (h0 : qH) (d : Nat) (x1 s0 : Int) (B : qB) (Q : qO → qB → Prop) : Prop := R32 s0 ∧ (¬ s0 = 92 → r_alone_58 m h0 d s0 B Q) ∧ (s0 = 92 → 0 ≤ (200 * x1) + 1 ∧ (200 * x1) + 1 < 1600 ∧ qZ m h0 d k_isLetterOfKind 0 [some (iv (B 4 ((200 * x1) + 1)))] [] B (fun o B' => ∃ v : Int, o = .inl (some (iv v)) ∧ r_alone_51 m h0 d s0 v B' Q))
theorem r_alone_29_ok {m : Nat} {h0 : qH} {d : Nat} {x1 s0 : Int} {B : qB} {Q : qO → qB → Prop} (hm : m + 100 < 1000000000) (w : r_alone_29 m h0 d x1 s0 B Q) : qZ m h0 (d + 1) k_alone 29 [some (.ref m), some (iv x1), none, none] [iv s0] B Q := by
  unfold r_alone_29 at w
  obtain ⟨p1, w⟩ := w
  refine z_st1 (ok := q_isI) (n := 2) (L' := [some (.ref m), some (iv x1), some (iv s0), none]) (ck_at dt_alone 17 rfl) rfl (fun _ => rfl) (fun _ _ => rfl) rfl nl_alone (by decide) rfl rfl ?_
  refine z_ldk (ok := q_isI) (n := 2) (ck_at dt_alone 18 rfl) rfl rfl (fun _ => rfl) rfl rfl ?_
  refine z_op (ck_at dt_alone 19 rfl) rfl (o_bipush _ (by decide)) ?_
  refine z_icmp (t := 58) (ck_at dt_alone 20 rfl) rfl p1 ⟨by decide, by decide⟩ ?_ ?_
  · intro q; have w := w.1 q
    exact z_wk (r_alone_58_ok hm w) ⟨rfl, ⟨rfl, trivial⟩⟩
  · intro q; have w := w.2 q
    obtain ⟨p2, p3, w⟩ := w
    refine z_ldk (ok := q_isA) (n := 0) (ck_at dt_alone 21 rfl) rfl rfl (fun _ => rfl) rfl rfl ?_
    refine z_getR (j := 4) (a := 1) (ck_at dt_alone 22 rfl) own_alone (mf_at 2 rfl) (by decide) rfl rfl ?_
    refine z_op (ck_at dt_alone 23 rfl) rfl (o_sipush _ (by decide)) ?_
    refine z_ldk (ok := q_isI) (n := 1) (ck_at dt_alone 24 rfl) rfl rfl (fun _ => rfl) rfl rfl ?_
    refine z_op (ck_at dt_alone 25 rfl) rfl o_imul ?_
    refine z_op (ck_at dt_alone 26 rfl) rfl (o_const _) ?_
    refine z_op (ck_at dt_alone 27 rfl) rfl o_iadd ?_
    refine z_iald (j := 4) (n := 1600) (ck_at dt_alone 28 rfl) rfl rfl rfl p2 p3 ?_
    refine z_stat (k' := k_isLetterOfKind) (n := 0) (as := [iv (B 4 ((200 * x1) + 1))]) (r := []) (ck_at dt_alone 29 rfl) own_alone (mm_at 22 rfl) (ms_at 1 rfl) vk_isLetterOfKind rfl nl_isLetterOfKind rfl rfl rfl rfl ?_
    exact w.mono (Nat.le_refl _) (fun o B' ⟨v, ho, w⟩ => ⟨some (iv v), ho, z_wk (r_alone_51_ok hm w) ⟨rfl, ⟨rfl, trivial⟩⟩⟩)
def r_alone_5 (m : Nat) (h0 : qH) (d : Nat) (x1 : Int) (B : qB) (Q : qO → qB → Prop) : Prop := 0 ≤ x1 ∧ x1 < 8 ∧ R32 (B 6 x1) ∧ (B 6 x1 ≤ 1 → r_alone_29 m h0 d x1 (-1) B Q) ∧ (B 6 x1 > 1 → 0 ≤ 200 * x1 ∧ 200 * x1 < 1600 ∧ r_alone_29 m h0 d x1 (B 4 (200 * x1)) B Q)
theorem r_alone_5_ok {m : Nat} {h0 : qH} {d : Nat} {x1 : Int} {B : qB} {Q : qO → qB → Prop} (hm : m + 100 < 1000000000) (w : r_alone_5 m h0 d x1 B Q) : qZ m h0 (d + 1) k_alone 5 [some (.ref m), some (iv x1), none, none] [] B Q := by
  unfold r_alone_5 at w
  obtain ⟨p1, p2, p3, w⟩ := w
  refine z_ldk (ok := q_isA) (n := 0) (ck_at dt_alone 3 rfl) rfl rfl (fun _ => rfl) rfl rfl ?_
  refine z_getR (j := 6) (a := 3) (ck_at dt_alone 4 rfl) own_alone (mf_at 4 rfl) (by decide) rfl rfl ?_
  refine z_ldk (ok := q_isI) (n := 1) (ck_at dt_alone 5 rfl) rfl rfl (fun _ => rfl) rfl rfl ?_
  refine z_iald (j := 6) (n := 8) (ck_at dt_alone 6 rfl) rfl rfl rfl p1 p2 ?_
  refine z_op (ck_at dt_alone 7 rfl) rfl (o_const _) ?_
  refine z_icmp (t := 28) (ck_at dt_alone 8 rfl) rfl p3 ⟨by decide, by decide⟩ ?_ ?_
  · intro q; have w := w.1 q
    refine z_op (ck_at dt_alone 16 rfl) rfl (o_const _) ?_
    exact z_wk (r_alone_29_ok hm w) ⟨rfl, ⟨rfl, trivial⟩⟩
  · intro q; have w := w.2 q
    obtain ⟨p4, p5, w⟩ := w
    refine z_ldk (ok := q_isA) (n := 0) (ck_at dt_alone 9 rfl) rfl rfl (fun _ => rfl) rfl rfl ?_
    refine z_getR (j := 4) (a := 1) (ck_at dt_alone 10 rfl) own_alone (mf_at 2 rfl) (by decide) rfl rfl ?_
    refine z_op (ck_at dt_alone 11 rfl) rfl (o_sipush _ (by decide)) ?_
    refine z_ldk (ok := q_isI) (n := 1) (ck_at dt_alone 12 rfl) rfl rfl (fun _ => rfl) rfl rfl ?_
    refine z_op (ck_at dt_alone 13 rfl) rfl o_imul ?_
    refine z_iald (j := 4) (n := 1600) (ck_at dt_alone 14 rfl) rfl rfl rfl p4 p5 ?_
    refine z_goto (t := 29) (ck_at dt_alone 15 rfl) rfl ?_
    exact z_wk (r_alone_29_ok hm w) ⟨rfl, ⟨rfl, trivial⟩⟩
def r_alone_0 (m : Nat) (h0 : qH) (d : Nat) (x1 : Int) (B : qB) (Q : qO → qB → Prop) : Prop := qZ m h0 d k_again 0 [some (.ref m), some (iv x1), none] [] B (fun o B' => o = .inl none ∧ r_alone_5 m h0 d x1 B' Q)
theorem r_alone_0_ok {m : Nat} {h0 : qH} {d : Nat} {x1 : Int} {B : qB} {Q : qO → qB → Prop} (hm : m + 100 < 1000000000) (w : r_alone_0 m h0 d x1 B Q) : qZ m h0 (d + 1) k_alone 0 [some (.ref m), some (iv x1), none, none] [] B Q := by
  unfold r_alone_0 at w
  refine z_ldk (ok := q_isA) (n := 0) (ck_at dt_alone 0 rfl) rfl rfl (fun _ => rfl) rfl rfl ?_
  refine z_ldk (ok := q_isI) (n := 1) (ck_at dt_alone 1 rfl) rfl rfl (fun _ => rfl) rfl rfl ?_
  refine z_virt (k' := k_again) (n := 1) (as := [iv x1]) (r := []) (ck_at dt_alone 2 rfl) own_alone (mm_at 28 rfl) vk_again rfl nl_again rfl rfl rfl rfl ?_
  exact w.mono (Nat.le_refl _) (fun o B' ⟨ho, w⟩ => ⟨none, ho, z_wk (r_alone_5_ok hm w) ⟨rfl, ⟨rfl, trivial⟩⟩⟩)
/-! span(III)I -/
def t_span : List (Nat × Instr × Nat) := [(0, .iload_n 1, 1), (1, .iconst 0, 1), (2, .bipush 7, 2), (4, .invokestatic 170, 3), (7, .ifCond .eq 21, 3), (10, .iload_n 2, 1), (11, .iconst 0, 1), (12, .iconst 3, 1), (13, .invokestatic 170, 3), (16, .ifCond .eq 12, 3), (19, .iload_n 3, 1), (20, .iconst 0, 1), (21, .iconst 1, 1), (22, .invokestatic 170, 3), (25, .ifCond .ne 9, 3), (28, .aload_n 0, 1), (29, .iconst 1, 1), (30, .invokevirtual 162, 3), (33, .ireturn, 1), (34, .aload_n 0, 1), (35, .getfield 23, 3), (38, .iload_n 1, 1), (39, .iaload, 1), (40, .ifCond .ne 9, 3), (43, .aload_n 0, 1), (44, .iconst 2, 1), (45, .invokevirtual 162, 3), (48, .ireturn, 1), (49, .aload_n 0, 1), (50, .iload_n 1, 1), (51, .invokevirtual 419, 3), (54, .istore 4, 2), (56, .iload 4, 2), (58, .ifCond .ge 9, 3), (61, .aload_n 0, 1), (62, .iconst 3, 1), (63, .invokevirtual 162, 3), (66, .ireturn, 1), (67, .aload_n 0, 1), (68, .iconst 0, 1), (69, .putfield 156, 3), (72, .iconst 0, 1), (73, .istore 5, 2), (75, .iload 5, 2), (77, .aload_n 0, 1), (78, .getfield 32, 3), (81, .iload_n 2, 1), (82, .iaload, 1), (83, .if_icmp .ge 41, 3), (86, .aload_n 0, 1), (87, .iload 4, 2), (89, .aload_n 0, 1), (90, .getfield 20, 3), (93, .sipush 1000, 3), (96, .iload_n 2, 1), (97, .imul, 1), (98, .iload 5, 2), (100, .iadd, 1), (101, .iaload, 1), (102, .invokevirtual 342, 3), (105, .iload_n 3, 1), (106, .iconst 1, 1), (107, .if_icmp .ne 7, 3), (110, .iconst 1, 1), (111, .goto 4, 3), (114, .iconst 0, 1), (115, .if_icmp .ne 9, 3), (118, .iinc 5 1, 3), (121, .goto (-46), 3), (124, .iload 5, 2), (126, .ireturn, 1)]
set_option maxRecDepth 100000 in
theorem dt_span : q_ck k_span t_span = true := by decide +kernel
def r_span_115 (m : Nat) (h0 : qH) (d : Nat) (x2 x3 x4 x5 s0 s1 : Int) (B : qB) (Q : qO → qB → Prop) : Prop := R32 s0 ∧ R32 s1 ∧ (¬ s0 = s1 → Q (.inl (some (iv x5))) B) ∧ (s0 = s1 → qZ m h0 (d + 1) k_span 75 [some (.ref m), none, some (iv x2), some (iv x3), some (iv x4), some (iv (x5 + 1))] [] B Q)
theorem r_span_115_ok {m : Nat} {h0 : qH} {d : Nat} {x2 x3 x4 x5 s0 s1 : Int} {B : qB} {Q : qO → qB → Prop} (hm : m + 100 < 1000000000) (w : r_span_115 m h0 d x2 x3 x4 x5 s0 s1 B Q) : qZ m h0 (d + 1) k_span 115 [some (.ref m), none, some (iv x2), some (iv x3), some (iv x4), some (iv x5)] [iv s1, iv s0] B Q := by
  unfold r_span_115 at w
  obtain ⟨p1, p2, w⟩ := w
  refine z_icmp (t := 124) (ck_at dt_span 66 rfl) rfl p1 p2 ?_ ?_
  · intro q; have w := w.1 q
    refine z_ldk (ok := q_isI) (n := 5) (ck_at dt_span 69 rfl) rfl rfl (fun _ => rfl) rfl rfl ?_
    exact z_retI (ck_at dt_span 70 rfl) rt_span w
  · intro q; have w := w.2 q
    refine z_iinc (n := 5) (L' := [some (.ref m), none, some (iv x2), some (iv x3), some (iv x4), some (iv (x5 + 1))]) (ck_at dt_span 67 rfl) rfl nl_span (by decide) rfl rfl ?_
    refine z_goto (t := 75) (ck_at dt_span 68 rfl) rfl ?_
    exact z_wk w ⟨rfl, ⟨rfl, ⟨rfl, ⟨rfl, ⟨rfl, trivial⟩⟩⟩⟩⟩
def r_span_105 (m : Nat) (h0 : qH) (d : Nat) (x2 x3 x4 x5 s0 : Int) (B : qB) (Q : qO → qB → Prop) : Prop := R32 x3 ∧ (¬ x3 = 1 → r_span_115 m h0 d x2 x3 x4 x5 s0 0 B Q) ∧ (x3 = 1 → r_span_115 m h0 d x2 x3 x4 x5 s0 1 B Q)
theorem r_span_105_ok {m : Nat} {h0 : qH} {d : Nat} {x2 x3 x4 x5 s0 : Int} {B : qB} {Q : qO → qB → Prop} (hm : m + 100 < 1000000000) (w : r_span_105 m h0 d x2 x3 x4 x5 s0 B Q) : qZ m h0 (d + 1) k_span 105 [some (.ref m), none, some (iv x2), some (iv x3), some (iv x4), some (iv x5)] [iv s0] B Q := by
  unfold r_span_105 at w
  obtain ⟨p1, w⟩ := w
  refine z_ldk (ok := q_isI) (n := 3) (ck_at dt_span 60 rfl) rfl rfl (fun _ => rfl) rfl rfl ?_
  refine z_op (ck_at dt_span 61 rfl) rfl (o_const _) ?_
  refine z_icmp (t := 114) (ck_at dt_span 62 rfl) rfl p1 ⟨by decide, by decide⟩ ?_ ?_
  · intro q; have w := w.1 q
    refine z_op (ck_at dt_span 65 rfl) rfl (o_const _) ?_
    exact z_wk (r_span_115_ok hm w) ⟨rfl, ⟨rfl, ⟨rfl, ⟨rfl, ⟨rfl, trivial⟩⟩⟩⟩⟩
  · intro q; have w := w.2 q
    refine z_op (ck_at dt_span 63 rfl) rfl (o_const _) ?_
    refine z_goto (t := 115) (ck_at dt_span 64 rfl) rfl ?_
    exact z_wk (r_span_115_ok hm w) ⟨rfl, ⟨rfl, ⟨rfl, ⟨rfl, ⟨rfl, trivial⟩⟩⟩⟩⟩
def r_span_75 (m : Nat) (h0 : qH) (d : Nat) (x2 x3 x4 x5 : Int) (B : qB) (Q : qO → qB → Prop) : Prop := 0 ≤ x2 ∧ x2 < 4 ∧ R32 x5 ∧ R32 (B 9 x2) ∧ (x5 ≥ B 9 x2 → Q (.inl (some (iv x5))) B) ∧ (x5 < B 9 x2 → 0 ≤ (1000 * x2) + x5 ∧ (1000 * x2) + x5 < 4000 ∧ qZ m h0 d k_has 0 [some (.ref m), some (iv x4), some (iv (B 5 ((1000 * x2) + x5)))] [] B (fun o B' => ∃ v : Int, o = .inl (some (iv v)) ∧ r_span_105 m h0 d x2 x3 x4 x5 v B' Q))
theorem r_span_75_ok {m : Nat} {h0 : qH} {d : Nat} {x2 x3 x4 x5 : Int} {B : qB} {Q : qO → qB → Prop} (hm : m + 100 < 1000000000) (w : r_span_75 m h0 d x2 x3 x4 x5 B Q) : qZ m h0 (d + 1) k_span 75 [some (.ref m), none, some (iv x2), some (iv x3), some (iv x4), some (iv x5)] [] B Q := by
  unfold r_span_75 at w
  obtain ⟨p1, p2, p3, p4, w⟩ := w
  refine z_ldk (ok := q_isI) (n := 5) (ck_at dt_span 43 rfl) rfl rfl (fun _ => rfl) rfl rfl ?_
  refine z_ldk (ok := q_isA) (n := 0) (ck_at dt_span 44 rfl) rfl rfl (fun _ => rfl) rfl rfl ?_
  refine z_getR (j := 9) (a := 6) (ck_at dt_span 45 rfl) own_span (mf_at 7 rfl) (by decide) rfl rfl ?_
  refine z_ldk (ok := q_isI) (n := 2) (ck_at dt_span 46 rfl) rfl rfl (fun _ => rfl) rfl rfl ?_
  refine z_iald (j := 9) (n := 4) (ck_at dt_span 47 rfl) rfl rfl rfl p1 p2 ?_
  refine z_icmp (t := 124) (ck_at dt_span 48 rfl) rfl p3 p4 ?_ ?_
  · intro q; have w := w.1 q
    refine z_ldk (ok := q_isI) (n := 5) (ck_at dt_span 69 rfl) rfl rfl (fun _ => rfl) rfl rfl ?_
    exact z_retI (ck_at dt_span 70 rfl) rt_span w
  · intro q; have w := w.2 q
    obtain ⟨p5, p6, w⟩ := w
    refine z_ldk (ok := q_isA) (n := 0) (ck_at dt_span 49 rfl) rfl rfl (fun _ => rfl) rfl rfl ?_
    refine z_ldk (ok := q_isI) (n := 4) (ck_at dt_span 50 rfl) rfl rfl (fun _ => rfl) rfl rfl ?_
    refine z_ldk (ok := q_isA) (n := 0) (ck_at dt_span 51 rfl) rfl rfl (fun _ => rfl) rfl rfl ?_
    refine z_getR (j := 5) (a := 2) (ck_at dt_span 52 rfl) own_span (mf_at 3 rfl) (by decide) rfl rfl ?_
    refine z_op (ck_at dt_span 53 rfl) rfl (o_sipush _ (by decide)) ?_
    refine z_ldk (ok := q_isI) (n := 2) (ck_at dt_span 54 rfl) rfl rfl (fun _ => rfl) rfl rfl ?_
    refine z_op (ck_at dt_span 55 rfl) rfl o_imul ?_
    refine z_ldk (ok := q_isI) (n := 5) (ck_at dt_span 56 rfl) rfl rfl (fun _ => rfl) rfl rfl ?_
    refine z_op (ck_at dt_span 57 rfl) rfl o_iadd ?_
    refine z_iald (j := 5) (n := 4000) (ck_at dt_span 58 rfl) rfl rfl rfl p5 p6 ?_
    refine z_virt (k' := k_has) (n := 0) (as := [iv x4, iv (B 5 ((1000 * x2) + x5))]) (r := []) (ck_at dt_span 59 rfl) own_span (mm_at 44 rfl) vk_has rfl nl_has rfl rfl rfl rfl ?_
    exact w.mono (Nat.le_refl _) (fun o B' ⟨v, ho, w⟩ => ⟨some (iv v), ho, z_wk (r_span_105_ok hm w) ⟨rfl, ⟨rfl, ⟨rfl, ⟨rfl, ⟨rfl, trivial⟩⟩⟩⟩⟩⟩)
def r_span_66 (m : Nat) (h0 : qH) (d : Nat) (s0 : Int) (B : qB) (Q : qO → qB → Prop) : Prop := Q (.inl (some (iv s0))) B
theorem r_span_66_ok {m : Nat} {h0 : qH} {d : Nat} {s0 : Int} {B : qB} {Q : qO → qB → Prop} (hm : m + 100 < 1000000000) (w : r_span_66 m h0 d s0 B Q) : qZ m h0 (d + 1) k_span 66 [none, none, none, none, none, none] [iv s0] B Q := by
  unfold r_span_66 at w
  exact z_retI (ck_at dt_span 37 rfl) rt_span w
def r_span_54 (m : Nat) (h0 : qH) (d : Nat) (x2 x3 s0 : Int) (B : qB) (Q : qO → qB → Prop) : Prop := R32 s0 ∧ (s0 ≥ 0 → qZ m h0 (d + 1) k_span 75 [some (.ref m), none, some (iv x2), some (iv x3), some (iv s0), some (iv 0)] [] (u2 B 0 0 0) Q) ∧ (s0 < 0 → qZ m h0 d k_refuse 0 [some (.ref m), some (iv 3)] [] B (fun o B' => ∃ v : Int, o = .inl (some (iv v)) ∧ r_span_66 m h0 d v B' Q))
theorem r_span_54_ok {m : Nat} {h0 : qH} {d : Nat} {x2 x3 s0 : Int} {B : qB} {Q : qO → qB → Prop} (hm : m + 100 < 1000000000) (w : r_span_54 m h0 d x2 x3 s0 B Q) : qZ m h0 (d + 1) k_span 54 [some (.ref m), none, some (iv x2), some (iv x3), none, none] [iv s0] B Q := by
  unfold r_span_54 at w
  obtain ⟨p1, w⟩ := w
  refine z_st1 (ok := q_isI) (n := 4) (L' := [some (.ref m), none, some (iv x2), some (iv x3), some (iv s0), none]) (ck_at dt_span 31 rfl) rfl (fun _ => rfl) (fun _ _ => rfl) rfl nl_span (by decide) rfl rfl ?_
  refine z_ldk (ok := q_isI) (n := 4) (ck_at dt_span 32 rfl) rfl rfl (fun _ => rfl) rfl rfl ?_
  refine z_ifz (t := 67) (ck_at dt_span 33 rfl) rfl p1 ?_ ?_
  · intro q; have w := w.1 q
    refine z_ldk (ok := q_isA) (n := 0) (ck_at dt_span 38 rfl) rfl rfl (fun _ => rfl) rfl rfl ?_
    refine z_op (ck_at dt_span 39 rfl) rfl (o_const _) ?_
    refine z_putI (j := 0) hm (ck_at dt_span 40 rfl) own_span (mf_at 47 rfl) (by decide) rfl rfl rfl ?_
    refine z_op (ck_at dt_span 41 rfl) rfl (o_const _) ?_
    refine z_st1 (ok := q_isI) (n := 5) (L' := [some (.ref m), none, some (iv x2), some (iv x3), some (iv s0), some (iv 0)]) (ck_at dt_span 42 rfl) rfl (fun _ => rfl) (fun _ _ => rfl) rfl nl_span (by decide) rfl rfl ?_
    exact z_wk w ⟨rfl, ⟨rfl, ⟨rfl, ⟨rfl, ⟨rfl, trivial⟩⟩⟩⟩⟩
  · intro q; have w := w.2 q
    refine z_ldk (ok := q_isA) (n := 0) (ck_at dt_span 34 rfl) rfl rfl (fun _ => rfl) rfl rfl ?_
    refine z_op (ck_at dt_span 35 rfl) rfl (o_const _) ?_
    refine z_virt (k' := k_refuse) (n := 0) (as := [iv 3]) (r := []) (ck_at dt_span 36 rfl) own_span (mm_at 0 rfl) vk_refuse rfl nl_refuse rfl rfl rfl rfl ?_
    exact w.mono (Nat.le_refl _) (fun o B' ⟨v, ho, w⟩ => ⟨some (iv v), ho, z_wk (r_span_66_ok hm w) trivial⟩)
def r_span_48 (m : Nat) (h0 : qH) (d : Nat) (s0 : Int) (B : qB) (Q : qO → qB → Prop) : Prop := Q (.inl (some (iv s0))) B
theorem r_span_48_ok {m : Nat} {h0 : qH} {d : Nat} {s0 : Int} {B : qB} {Q : qO → qB → Prop} (hm : m + 100 < 1000000000) (w : r_span_48 m h0 d s0 B Q) : qZ m h0 (d + 1) k_span 48 [none, none, none, none, none, none] [iv s0] B Q := by
  unfold r_span_48 at w
  exact z_retI (ck_at dt_span 27 rfl) rt_span w
def r_span_33 (m : Nat) (h0 : qH) (d : Nat) (s0 : Int) (B : qB) (Q : qO → qB → Prop) : Prop := Q (.inl (some (iv s0))) B
theorem r_span_33_ok {m : Nat} {h0 : qH} {d : Nat} {s0 : Int} {B : qB} {Q : qO → qB → Prop} (hm : m + 100 < 1000000000) (w : r_span_33 m h0 d s0 B Q) : qZ m h0 (d + 1) k_span 33 [none, none, none, none, none, none] [iv s0] B Q := by
  unfold r_span_33 at w
  exact z_retI (ck_at dt_span 18 rfl) rt_span w
def r_span_28 (m : Nat) (h0 : qH) (d : Nat) (B : qB) (Q : qO → qB → Prop) : Prop := qZ m h0 d k_refuse 0 [some (.ref m), some (iv 1)] [] B (fun o B' => ∃ v : Int, o = .inl (some (iv v)) ∧ r_span_33 m h0 d v B' Q)
theorem r_span_28_ok {m : Nat} {h0 : qH} {d : Nat} {B : qB} {Q : qO → qB → Prop} (hm : m + 100 < 1000000000) (w : r_span_28 m h0 d B Q) : qZ m h0 (d + 1) k_span 28 [some (.ref m), none, none, none, none, none] [] B Q := by
  unfold r_span_28 at w
  refine z_ldk (ok := q_isA) (n := 0) (ck_at dt_span 15 rfl) rfl rfl (fun _ => rfl) rfl rfl ?_
  refine z_op (ck_at dt_span 16 rfl) rfl (o_const _) ?_
  refine z_virt (k' := k_refuse) (n := 0) (as := [iv 1]) (r := []) (ck_at dt_span 17 rfl) own_span (mm_at 0 rfl) vk_refuse rfl nl_refuse rfl rfl rfl rfl ?_
  exact w.mono (Nat.le_refl _) (fun o B' ⟨v, ho, w⟩ => ⟨some (iv v), ho, z_wk (r_span_33_ok hm w) trivial⟩)
def r_span_25 (m : Nat) (h0 : qH) (d : Nat) (x1 x2 x3 s0 : Int) (B : qB) (Q : qO → qB → Prop) : Prop := R32 s0 ∧ (¬ s0 = 0 → 0 ≤ x1 ∧ x1 < 8 ∧ R32 (B 6 x1) ∧ (¬ B 6 x1 = 0 → qZ m h0 d k_alone 0 [some (.ref m), some (iv x1), none, none] [] B (fun o B' => ∃ v : Int, o = .inl (some (iv v)) ∧ r_span_54 m h0 d x2 x3 v B' Q)) ∧ (B 6 x1 = 0 → qZ m h0 d k_refuse 0 [some (.ref m), some (iv 2)] [] B (fun o B' => ∃ v : Int, o = .inl (some (iv v)) ∧ r_span_48 m h0 d v B' Q))) ∧ (s0 = 0 → r_span_28 m h0 d B Q)
theorem r_span_25_ok {m : Nat} {h0 : qH} {d : Nat} {x1 x2 x3 s0 : Int} {B : qB} {Q : qO → qB → Prop} (hm : m + 100 < 1000000000) (w : r_span_25 m h0 d x1 x2 x3 s0 B Q) : qZ m h0 (d + 1) k_span 25 [some (.ref m), some (iv x1), some (iv x2), some (iv x3), none, none] [iv s0] B Q := by
  unfold r_span_25 at w
  obtain ⟨p1, w⟩ := w
  refine z_ifz (t := 34) (ck_at dt_span 14 rfl) rfl p1 ?_ ?_
  · intro q; have w := w.1 q
    obtain ⟨p2, p3, p4, w⟩ := w
    refine z_ldk (ok := q_isA) (n := 0) (ck_at dt_span 19 rfl) rfl rfl (fun _ => rfl) rfl rfl ?_
    refine z_getR (j := 6) (a := 3) (ck_at dt_span 20 rfl) own_span (mf_at 4 rfl) (by decide) rfl rfl ?_
    refine z_ldk (ok := q_isI) (n := 1) (ck_at dt_span 21 rfl) rfl rfl (fun _ => rfl) rfl rfl ?_
    refine z_iald (j := 6) (n := 8) (ck_at dt_span 22 rfl) rfl rfl rfl p2 p3 ?_
    refine z_ifz (t := 49) (ck_at dt_span 23 rfl) rfl p4 ?_ ?_
    · intro q; have w := w.1 q
      refine z_ldk (ok := q_isA) (n := 0) (ck_at dt_span 28 rfl) rfl rfl (fun _ => rfl) rfl rfl ?_
      refine z_ldk (ok := q_isI) (n := 1) (ck_at dt_span 29 rfl) rfl rfl (fun _ => rfl) rfl rfl ?_
      refine z_virt (k' := k_alone) (n := 2) (as := [iv x1]) (r := []) (ck_at dt_span 30 rfl) own_span (mm_at 53 rfl) vk_alone rfl nl_alone rfl rfl rfl rfl ?_
      exact w.mono (Nat.le_refl _) (fun o B' ⟨v, ho, w⟩ => ⟨some (iv v), ho, z_wk (r_span_54_ok hm w) ⟨rfl, ⟨rfl, ⟨rfl, trivial⟩⟩⟩⟩)
    · intro q; have w := w.2 q
      refine z_ldk (ok := q_isA) (n := 0) (ck_at dt_span 24 rfl) rfl rfl (fun _ => rfl) rfl rfl ?_
      refine z_op (ck_at dt_span 25 rfl) rfl (o_const _) ?_
      refine z_virt (k' := k_refuse) (n := 0) (as := [iv 2]) (r := []) (ck_at dt_span 26 rfl) own_span (mm_at 0 rfl) vk_refuse rfl nl_refuse rfl rfl rfl rfl ?_
      exact w.mono (Nat.le_refl _) (fun o B' ⟨v, ho, w⟩ => ⟨some (iv v), ho, z_wk (r_span_48_ok hm w) trivial⟩)
  · intro q; have w := w.2 q
    exact z_wk (r_span_28_ok hm w) ⟨rfl, trivial⟩
def r_span_16 (m : Nat) (h0 : qH) (d : Nat) (x1 x2 x3 s0 : Int) (B : qB) (Q : qO → qB → Prop) : Prop := R32 s0 ∧ (s0 = 0 → r_span_28 m h0 d B Q) ∧ (¬ s0 = 0 → qZ m h0 d k_in 0 [some (iv x3), some (iv 0), some (iv 1)] [] B (fun o B' => ∃ v : Int, o = .inl (some (iv v)) ∧ r_span_25 m h0 d x1 x2 x3 v B' Q))
theorem r_span_16_ok {m : Nat} {h0 : qH} {d : Nat} {x1 x2 x3 s0 : Int} {B : qB} {Q : qO → qB → Prop} (hm : m + 100 < 1000000000) (w : r_span_16 m h0 d x1 x2 x3 s0 B Q) : qZ m h0 (d + 1) k_span 16 [some (.ref m), some (iv x1), some (iv x2), some (iv x3), none, none] [iv s0] B Q := by
  unfold r_span_16 at w
  obtain ⟨p1, w⟩ := w
  refine z_ifz (t := 28) (ck_at dt_span 9 rfl) rfl p1 ?_ ?_
  · intro q; have w := w.1 q
    exact z_wk (r_span_28_ok hm w) ⟨rfl, trivial⟩
  · intro q; have w := w.2 q
    refine z_ldk (ok := q_isI) (n := 3) (ck_at dt_span 10 rfl) rfl rfl (fun _ => rfl) rfl rfl ?_
    refine z_op (ck_at dt_span 11 rfl) rfl (o_const _) ?_
    refine z_op (ck_at dt_span 12 rfl) rfl (o_const _) ?_
    refine z_stat (k' := k_in) (n := 0) (as := [iv x3, iv 0, iv 1]) (r := []) (ck_at dt_span 13 rfl) own_span (mm_at 2 rfl) (ms_at 0 rfl) vk_in rfl nl_in rfl rfl rfl rfl ?_
    exact w.mono (Nat.le_refl _) (fun o B' ⟨v, ho, w⟩ => ⟨some (iv v), ho, z_wk (r_span_25_ok hm w) ⟨rfl, ⟨rfl, ⟨rfl, ⟨rfl, trivial⟩⟩⟩⟩⟩)
def r_span_7 (m : Nat) (h0 : qH) (d : Nat) (x1 x2 x3 s0 : Int) (B : qB) (Q : qO → qB → Prop) : Prop := R32 s0 ∧ (s0 = 0 → r_span_28 m h0 d B Q) ∧ (¬ s0 = 0 → qZ m h0 d k_in 0 [some (iv x2), some (iv 0), some (iv 3)] [] B (fun o B' => ∃ v : Int, o = .inl (some (iv v)) ∧ r_span_16 m h0 d x1 x2 x3 v B' Q))
theorem r_span_7_ok {m : Nat} {h0 : qH} {d : Nat} {x1 x2 x3 s0 : Int} {B : qB} {Q : qO → qB → Prop} (hm : m + 100 < 1000000000) (w : r_span_7 m h0 d x1 x2 x3 s0 B Q) : qZ m h0 (d + 1) k_span 7 [some (.ref m), some (iv x1), some (iv x2), some (iv x3), none, none] [iv s0] B Q := by
  unfold r_span_7 at w
  obtain ⟨p1, w⟩ := w
  refine z_ifz (t := 28) (ck_at dt_span 4 rfl) rfl p1 ?_ ?_
  · intro q; have w := w.1 q
    exact z_wk (r_span_28_ok hm w) ⟨rfl, trivial⟩
  · intro q; have w := w.2 q
    refine z_ldk (ok := q_isI) (n := 2) (ck_at dt_span 5 rfl) rfl rfl (fun _ => rfl) rfl rfl ?_
    refine z_op (ck_at dt_span 6 rfl) rfl (o_const _) ?_
    refine z_op (ck_at dt_span 7 rfl) rfl (o_const _) ?_
    refine z_stat (k' := k_in) (n := 0) (as := [iv x2, iv 0, iv 3]) (r := []) (ck_at dt_span 8 rfl) own_span (mm_at 2 rfl) (ms_at 0 rfl) vk_in rfl nl_in rfl rfl rfl rfl ?_
    exact w.mono (Nat.le_refl _) (fun o B' ⟨v, ho, w⟩ => ⟨some (iv v), ho, z_wk (r_span_16_ok hm w) ⟨rfl, ⟨rfl, ⟨rfl, ⟨rfl, trivial⟩⟩⟩⟩⟩)
def r_span_0 (m : Nat) (h0 : qH) (d : Nat) (x1 x2 x3 : Int) (B : qB) (Q : qO → qB → Prop) : Prop := qZ m h0 d k_in 0 [some (iv x1), some (iv 0), some (iv 7)] [] B (fun o B' => ∃ v : Int, o = .inl (some (iv v)) ∧ r_span_7 m h0 d x1 x2 x3 v B' Q)
theorem r_span_0_ok {m : Nat} {h0 : qH} {d : Nat} {x1 x2 x3 : Int} {B : qB} {Q : qO → qB → Prop} (hm : m + 100 < 1000000000) (w : r_span_0 m h0 d x1 x2 x3 B Q) : qZ m h0 (d + 1) k_span 0 [some (.ref m), some (iv x1), some (iv x2), some (iv x3), none, none] [] B Q := by
  unfold r_span_0 at w
  refine z_ldk (ok := q_isI) (n := 1) (ck_at dt_span 0 rfl) rfl rfl (fun _ => rfl) rfl rfl ?_
  refine z_op (ck_at dt_span 1 rfl) rfl (o_const _) ?_
  refine z_op (ck_at dt_span 2 rfl) rfl (o_bipush _ (by decide)) ?_
  refine z_stat (k' := k_in) (n := 0) (as := [iv x1, iv 0, iv 7]) (r := []) (ck_at dt_span 3 rfl) own_span (mm_at 2 rfl) (ms_at 0 rfl) vk_in rfl nl_in rfl rfl rfl rfl ?_
  exact w.mono (Nat.le_refl _) (fun o B' ⟨v, ho, w⟩ => ⟨some (iv v), ho, z_wk (r_span_7_ok hm w) ⟨rfl, ⟨rfl, ⟨rfl, ⟨rfl, trivial⟩⟩⟩⟩⟩)
