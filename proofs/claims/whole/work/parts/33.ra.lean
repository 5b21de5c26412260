/-! thrown()I -/
def t_thrown : List (Nat × Instr × Nat) := [(0, .aload_n 0, 1), (1, .getfield 156, 3), (4, .ireturn, 1)]
set_option maxRecDepth 100000 in
theorem dt_thrown : q_ck k_thrown t_thrown = true := by decide +kernel
def r_thrown_0 (m : Nat) (h0 : qH) (d : Nat) (B : qB) (Q : qO → qB → Prop) : Prop := Q (.inl (some (iv (B 0 0)))) B
theorem r_thrown_0_ok {m : Nat} {h0 : qH} {d : Nat} {B : qB} {Q : qO → qB → Prop} (hm : m + 100 < 1000000000) (w : r_thrown_0 m h0 d B Q) : qZ m h0 (d + 1) k_thrown 0 [some (.ref m)] [] B Q := by
  unfold r_thrown_0 at w
  refine z_ldk (ok := q_isA) (n := 0) (ck_at dt_thrown 0 rfl) rfl rfl (fun _ => rfl) rfl rfl ?_
  refine z_getI (j := 0) (ck_at dt_thrown 1 rfl) own_thrown (mf_at 47 rfl) (by decide) rfl ?_
  exact z_retI (ck_at dt_thrown 2 rfl) rt_thrown w
/-! refuse(I)I -/
def t_refuse : List (Nat × Instr × Nat) := [(0, .aload_n 0, 1), (1, .iload_n 1, 1), (2, .putfield 156, 3), (5, .iconst 0, 1), (6, .ireturn, 1)]
set_option maxRecDepth 100000 in
theorem dt_refuse : q_ck k_refuse t_refuse = true := by decide +kernel
def r_refuse_0 (m : Nat) (h0 : qH) (d : Nat) (x1 : Int) (B : qB) (Q : qO → qB → Prop) : Prop := Q (.inl (some (iv 0))) (u2 B 0 0 x1)
theorem r_refuse_0_ok {m : Nat} {h0 : qH} {d : Nat} {x1 : Int} {B : qB} {Q : qO → qB → Prop} (hm : m + 100 < 1000000000) (w : r_refuse_0 m h0 d x1 B Q) : qZ m h0 (d + 1) k_refuse 0 [some (.ref m), some (iv x1)] [] B Q := by
  unfold r_refuse_0 at w
  refine z_ldk (ok := q_isA) (n := 0) (ck_at dt_refuse 0 rfl) rfl rfl (fun _ => rfl) rfl rfl ?_
  refine z_ldk (ok := q_isI) (n := 1) (ck_at dt_refuse 1 rfl) rfl rfl (fun _ => rfl) rfl rfl ?_
  refine z_putI (j := 0) hm (ck_at dt_refuse 2 rfl) own_refuse (mf_at 47 rfl) (by decide) rfl rfl rfl ?_
  refine z_op (ck_at dt_refuse 3 rfl) rfl (o_const _) ?_
  exact z_retI (ck_at dt_refuse 4 rfl) rt_refuse w
/-! in(III)Z -/
def t_in : List (Nat × Instr × Nat) := [(0, .iload_n 0, 1), (1, .iload_n 1, 1), (2, .if_icmp .lt 12, 3), (5, .iload_n 0, 1), (6, .iload_n 2, 1), (7, .if_icmp .gt 7, 3), (10, .iconst 1, 1), (11, .goto 4, 3), (14, .iconst 0, 1), (15, .ireturn, 1)]
set_option maxRecDepth 100000 in
theorem dt_in : q_ck k_in t_in = true := by decide +kernel
def r_in_0 (m : Nat) (h0 : qH) (d : Nat) (x0 x1 x2 : Int) (B : qB) (Q : qO → qB → Prop) : Prop := R32 x0 ∧ R32 x1 ∧ (x0 < x1 → Q (.inl (some (iv 0))) B) ∧ (x0 ≥ x1 → R32 x2 ∧ (x0 > x2 → Q (.inl (some (iv 0))) B) ∧ (x0 ≤ x2 → Q (.inl (some (iv 1))) B))
theorem r_in_0_ok {m : Nat} {h0 : qH} {d : Nat} {x0 x1 x2 : Int} {B : qB} {Q : qO → qB → Prop} (hm : m + 100 < 1000000000) (w : r_in_0 m h0 d x0 x1 x2 B Q) : qZ m h0 (d + 1) k_in 0 [some (iv x0), some (iv x1), some (iv x2)] [] B Q := by
  unfold r_in_0 at w
  obtain ⟨p1, p2, w⟩ := w
  refine z_ldk (ok := q_isI) (n := 0) (ck_at dt_in 0 rfl) rfl rfl (fun _ => rfl) rfl rfl ?_
  refine z_ldk (ok := q_isI) (n := 1) (ck_at dt_in 1 rfl) rfl rfl (fun _ => rfl) rfl rfl ?_
  refine z_icmp (t := 14) (ck_at dt_in 2 rfl) rfl p1 p2 ?_ ?_
  · intro q; have w := w.1 q
    refine z_op (ck_at dt_in 8 rfl) rfl (o_const _) ?_
    exact z_retZ (ck_at dt_in 9 rfl) rt_in (by decide) w
  · intro q; have w := w.2 q
    obtain ⟨p3, w⟩ := w
    refine z_ldk (ok := q_isI) (n := 0) (ck_at dt_in 3 rfl) rfl rfl (fun _ => rfl) rfl rfl ?_
    refine z_ldk (ok := q_isI) (n := 2) (ck_at dt_in 4 rfl) rfl rfl (fun _ => rfl) rfl rfl ?_
    refine z_icmp (t := 14) (ck_at dt_in 5 rfl) rfl p1 p3 ?_ ?_
    · intro q; have w := w.1 q
      refine z_op (ck_at dt_in 8 rfl) rfl (o_const _) ?_
      exact z_retZ (ck_at dt_in 9 rfl) rt_in (by decide) w
    · intro q; have w := w.2 q
      refine z_op (ck_at dt_in 6 rfl) rfl (o_const _) ?_
      refine z_goto (t := 15) (ck_at dt_in 7 rfl) rfl ?_
      exact z_retZ (ck_at dt_in 9 rfl) rt_in (by decide) w
/-! isBlank(I)Z -/
def t_isBlank : List (Nat × Instr × Nat) := [(0, .iload_n 0, 1), (1, .bipush 9, 2), (3, .if_icmp .lt 9, 3), (6, .iload_n 0, 1), (7, .bipush 13, 2), (9, .if_icmp .le 9, 3), (12, .iload_n 0, 1), (13, .bipush 32, 2), (15, .if_icmp .ne 7, 3), (18, .iconst 1, 1), (19, .goto 4, 3), (22, .iconst 0, 1), (23, .ireturn, 1)]
set_option maxRecDepth 100000 in
theorem dt_isBlank : q_ck k_isBlank t_isBlank = true := by decide +kernel
def r_isBlank_12 (m : Nat) (h0 : qH) (d : Nat) (x0 : Int) (B : qB) (Q : qO → qB → Prop) : Prop := R32 x0 ∧ (¬ x0 = 32 → Q (.inl (some (iv 0))) B) ∧ (x0 = 32 → Q (.inl (some (iv 1))) B)
theorem r_isBlank_12_ok {m : Nat} {h0 : qH} {d : Nat} {x0 : Int} {B : qB} {Q : qO → qB → Prop} (hm : m + 100 < 1000000000) (w : r_isBlank_12 m h0 d x0 B Q) : qZ m h0 (d + 1) k_isBlank 12 [some (iv x0)] [] B Q := by
  unfold r_isBlank_12 at w
  obtain ⟨p1, w⟩ := w
  refine z_ldk (ok := q_isI) (n := 0) (ck_at dt_isBlank 6 rfl) rfl rfl (fun _ => rfl) rfl rfl ?_
  refine z_op (ck_at dt_isBlank 7 rfl) rfl (o_bipush _ (by decide)) ?_
  refine z_icmp (t := 22) (ck_at dt_isBlank 8 rfl) rfl p1 ⟨by decide, by decide⟩ ?_ ?_
  · intro q; have w := w.1 q
    refine z_op (ck_at dt_isBlank 11 rfl) rfl (o_const _) ?_
    exact z_retZ (ck_at dt_isBlank 12 rfl) rt_isBlank (by decide) w
  · intro q; have w := w.2 q
    refine z_op (ck_at dt_isBlank 9 rfl) rfl (o_const _) ?_
    refine z_goto (t := 23) (ck_at dt_isBlank 10 rfl) rfl ?_
    exact z_retZ (ck_at dt_isBlank 12 rfl) rt_isBlank (by decide) w
def r_isBlank_0 (m : Nat) (h0 : qH) (d : Nat) (x0 : Int) (B : qB) (Q : qO → qB → Prop) : Prop := R32 x0 ∧ (x0 < 9 → r_isBlank_12 m h0 d x0 B Q) ∧ (x0 ≥ 9 → (x0 ≤ 13 → Q (.inl (some (iv 1))) B) ∧ (x0 > 13 → r_isBlank_12 m h0 d x0 B Q))
theorem r_isBlank_0_ok {m : Nat} {h0 : qH} {d : Nat} {x0 : Int} {B : qB} {Q : qO → qB → Prop} (hm : m + 100 < 1000000000) (w : r_isBlank_0 m h0 d x0 B Q) : qZ m h0 (d + 1) k_isBlank 0 [some (iv x0)] [] B Q := by
  unfold r_isBlank_0 at w
  obtain ⟨p1, w⟩ := w
  refine z_ldk (ok := q_isI) (n := 0) (ck_at dt_isBlank 0 rfl) rfl rfl (fun _ => rfl) rfl rfl ?_
  refine z_op (ck_at dt_isBlank 1 rfl) rfl (o_bipush _ (by decide)) ?_
  refine z_icmp (t := 12) (ck_at dt_isBlank 2 rfl) rfl p1 ⟨by decide, by decide⟩ ?_ ?_
  · intro q; have w := w.1 q
    exact z_wk (r_isBlank_12_ok hm w) ⟨rfl, trivial⟩
  · intro q; have w := w.2 q
    refine z_ldk (ok := q_isI) (n := 0) (ck_at dt_isBlank 3 rfl) rfl rfl (fun _ => rfl) rfl rfl ?_
    refine z_op (ck_at dt_isBlank 4 rfl) rfl (o_bipush _ (by decide)) ?_
    refine z_icmp (t := 18) (ck_at dt_isBlank 5 rfl) rfl p1 ⟨by decide, by decide⟩ ?_ ?_
    · intro q; have w := w.1 q
      refine z_op (ck_at dt_isBlank 9 rfl) rfl (o_const _) ?_
      refine z_goto (t := 23) (ck_at dt_isBlank 10 rfl) rfl ?_
      exact z_retZ (ck_at dt_isBlank 12 rfl) rt_isBlank (by decide) w
    · intro q; have w := w.2 q
      exact z_wk (r_isBlank_12_ok hm w) ⟨rfl, trivial⟩
/-! feed(IIIII)I -/
def t_feed : List (Nat × Instr × Nat) := [(0, .aload_n 0, 1), (1, .getfield 159, 3), (4, .bipush 20, 2), (6, .iadd, 1), (7, .sipush 1200, 3), (10, .if_icmp .le 9, 3), (13, .aload_n 0, 1), (14, .iconst 1, 1), (15, .invokevirtual 162, 3), (18, .ireturn, 1), (19, .aload_n 0, 1), (20, .iconst 0, 1), (21, .putfield 156, 3), (24, .aload_n 0, 1), (25, .iload_n 1, 1), (26, .invokevirtual 166, 3), (29, .aload_n 0, 1), (30, .iload_n 2, 1), (31, .invokevirtual 166, 3), (34, .aload_n 0, 1), (35, .iload_n 3, 1), (36, .invokevirtual 166, 3), (39, .aload_n 0, 1), (40, .iload 4, 2), (42, .invokevirtual 166, 3), (45, .aload_n 0, 1), (46, .iload 5, 2), (48, .invokevirtual 166, 3), (51, .aload_n 0, 1), (52, .getfield 159, 3), (55, .ireturn, 1)]
set_option maxRecDepth 100000 in
theorem dt_feed : q_ck k_feed t_feed = true := by decide +kernel
def r_feed_51 (m : Nat) (h0 : qH) (d : Nat) (B : qB) (Q : qO → qB → Prop) : Prop := Q (.inl (some (iv (B 2 0)))) B
theorem r_feed_51_ok {m : Nat} {h0 : qH} {d : Nat} {B : qB} {Q : qO → qB → Prop} (hm : m + 100 < 1000000000) (w : r_feed_51 m h0 d B Q) : qZ m h0 (d + 1) k_feed 51 [some (.ref m), none, none, none, none, none] [] B Q := by
  unfold r_feed_51 at w
  refine z_ldk (ok := q_isA) (n := 0) (ck_at dt_feed 28 rfl) rfl rfl (fun _ => rfl) rfl rfl ?_
  refine z_getI (j := 2) (ck_at dt_feed 29 rfl) own_feed (mf_at 48 rfl) (by decide) rfl ?_
  exact z_retI (ck_at dt_feed 30 rfl) rt_feed w
def r_feed_45 (m : Nat) (h0 : qH) (d : Nat) (x5 : Int) (B : qB) (Q : qO → qB → Prop) : Prop := qZ m h0 d k_four 0 [some (.ref m), some (iv x5), none] [] B (fun o B' => o = .inl none ∧ r_feed_51 m h0 d B' Q)
theorem r_feed_45_ok {m : Nat} {h0 : qH} {d : Nat} {x5 : Int} {B : qB} {Q : qO → qB → Prop} (hm : m + 100 < 1000000000) (w : r_feed_45 m h0 d x5 B Q) : qZ m h0 (d + 1) k_feed 45 [some (.ref m), none, none, none, none, some (iv x5)] [] B Q := by
  unfold r_feed_45 at w
  refine z_ldk (ok := q_isA) (n := 0) (ck_at dt_feed 25 rfl) rfl rfl (fun _ => rfl) rfl rfl ?_
  refine z_ldk (ok := q_isI) (n := 5) (ck_at dt_feed 26 rfl) rfl rfl (fun _ => rfl) rfl rfl ?_
  refine z_virt (k' := k_four) (n := 1) (as := [iv x5]) (r := []) (ck_at dt_feed 27 rfl) own_feed (mm_at 1 rfl) vk_four rfl nl_four rfl rfl rfl rfl ?_
  exact w.mono (Nat.le_refl _) (fun o B' ⟨ho, w⟩ => ⟨none, ho, z_wk (r_feed_51_ok hm w) ⟨rfl, trivial⟩⟩)
def r_feed_39 (m : Nat) (h0 : qH) (d : Nat) (x4 x5 : Int) (B : qB) (Q : qO → qB → Prop) : Prop := qZ m h0 d k_four 0 [some (.ref m), some (iv x4), none] [] B (fun o B' => o = .inl none ∧ r_feed_45 m h0 d x5 B' Q)
theorem r_feed_39_ok {m : Nat} {h0 : qH} {d : Nat} {x4 x5 : Int} {B : qB} {Q : qO → qB → Prop} (hm : m + 100 < 1000000000) (w : r_feed_39 m h0 d x4 x5 B Q) : qZ m h0 (d + 1) k_feed 39 [some (.ref m), none, none, none, some (iv x4), some (iv x5)] [] B Q := by
  unfold r_feed_39 at w
  refine z_ldk (ok := q_isA) (n := 0) (ck_at dt_feed 22 rfl) rfl rfl (fun _ => rfl) rfl rfl ?_
  refine z_ldk (ok := q_isI) (n := 4) (ck_at dt_feed 23 rfl) rfl rfl (fun _ => rfl) rfl rfl ?_
  refine z_virt (k' := k_four) (n := 1) (as := [iv x4]) (r := []) (ck_at dt_feed 24 rfl) own_feed (mm_at 1 rfl) vk_four rfl nl_four rfl rfl rfl rfl ?_
  exact w.mono (Nat.le_refl _) (fun o B' ⟨ho, w⟩ => ⟨none, ho, z_wk (r_feed_45_ok hm w) ⟨rfl, ⟨rfl, trivial⟩⟩⟩)
def r_feed_34 (m : Nat) (h0 : qH) (d : Nat) (x3 x4 x5 : Int) (B : qB) (Q : qO → qB → Prop) : Prop := qZ m h0 d k_four 0 [some (.ref m), some (iv x3), none] [] B (fun o B' => o = .inl none ∧ r_feed_39 m h0 d x4 x5 B' Q)
theorem r_feed_34_ok {m : Nat} {h0 : qH} {d : Nat} {x3 x4 x5 : Int} {B : qB} {Q : qO → qB → Prop} (hm : m + 100 < 1000000000) (w : r_feed_34 m h0 d x3 x4 x5 B Q) : qZ m h0 (d + 1) k_feed 34 [some (.ref m), none, none, some (iv x3), some (iv x4), some (iv x5)] [] B Q := by
  unfold r_feed_34 at w
  refine z_ldk (ok := q_isA) (n := 0) (ck_at dt_feed 19 rfl) rfl rfl (fun _ => rfl) rfl rfl ?_
  refine z_ldk (ok := q_isI) (n := 3) (ck_at dt_feed 20 rfl) rfl rfl (fun _ => rfl) rfl rfl ?_
  refine z_virt (k' := k_four) (n := 1) (as := [iv x3]) (r := []) (ck_at dt_feed 21 rfl) own_feed (mm_at 1 rfl) vk_four rfl nl_four rfl rfl rfl rfl ?_
  exact w.mono (Nat.le_refl _) (fun o B' ⟨ho, w⟩ => ⟨none, ho, z_wk (r_feed_39_ok hm w) ⟨rfl, ⟨rfl, ⟨rfl, trivial⟩⟩⟩⟩)
def r_feed_29 (m : Nat) (h0 : qH) (d : Nat) (x2 x3 x4 x5 : Int) (B : qB) (Q : qO → qB → Prop) : Prop := qZ m h0 d k_four 0 [some (.ref m), some (iv x2), none] [] B (fun o B' => o = .inl none ∧ r_feed_34 m h0 d x3 x4 x5 B' Q)
theorem r_feed_29_ok {m : Nat} {h0 : qH} {d : Nat} {x2 x3 x4 x5 : Int} {B : qB} {Q : qO → qB → Prop} (hm : m + 100 < 1000000000) (w : r_feed_29 m h0 d x2 x3 x4 x5 B Q) : qZ m h0 (d + 1) k_feed 29 [some (.ref m), none, some (iv x2), some (iv x3), some (iv x4), some (iv x5)] [] B Q := by
  unfold r_feed_29 at w
  refine z_ldk (ok := q_isA) (n := 0) (ck_at dt_feed 16 rfl) rfl rfl (fun _ => rfl) rfl rfl ?_
  refine z_ldk (ok := q_isI) (n := 2) (ck_at dt_feed 17 rfl) rfl rfl (fun _ => rfl) rfl rfl ?_
  refine z_virt (k' := k_four) (n := 1) (as := [iv x2]) (r := []) (ck_at dt_feed 18 rfl) own_feed (mm_at 1 rfl) vk_four rfl nl_four rfl rfl rfl rfl ?_
  exact w.mono (Nat.le_refl _) (fun o B' ⟨ho, w⟩ => ⟨none, ho, z_wk (r_feed_34_ok hm w) ⟨rfl, ⟨rfl, ⟨rfl, ⟨rfl, trivial⟩⟩⟩⟩⟩)
def r_feed_18 (m : Nat) (h0 : qH) (d : Nat) (s0 : Int) (B : qB) (Q : qO → qB → Prop) : Prop := Q (.inl (some (iv s0))) B
theorem r_feed_18_ok {m : Nat} {h0 : qH} {d : Nat} {s0 : Int} {B : qB} {Q : qO → qB → Prop} (hm : m + 100 < 1000000000) (w : r_feed_18 m h0 d s0 B Q) : qZ m h0 (d + 1) k_feed 18 [none, none, none, none, none, none] [iv s0] B Q := by
  unfold r_feed_18 at w
  exact z_retI (ck_at dt_feed 9 rfl) rt_feed w
def r_feed_0 (m : Nat) (h0 : qH) (d : Nat) (x1 x2 x3 x4 x5 : Int) (B : qB) (Q : qO → qB → Prop) : Prop := R32 ((B 2 0) + 20) ∧ ((B 2 0) + 20 ≤ 1200 → qZ m h0 d k_four 0 [some (.ref m), some (iv x1), none] [] (u2 B 0 0 0) (fun o B' => o = .inl none ∧ r_feed_29 m h0 d x2 x3 x4 x5 B' Q)) ∧ ((B 2 0) + 20 > 1200 → qZ m h0 d k_refuse 0 [some (.ref m), some (iv 1)] [] B (fun o B' => ∃ v : Int, o = .inl (some (iv v)) ∧ r_feed_18 m h0 d v B' Q))
theorem r_feed_0_ok {m : Nat} {h0 : qH} {d : Nat} {x1 x2 x3 x4 x5 : Int} {B : qB} {Q : qO → qB → Prop} (hm : m + 100 < 1000000000) (w : r_feed_0 m h0 d x1 x2 x3 x4 x5 B Q) : qZ m h0 (d + 1) k_feed 0 [some (.ref m), some (iv x1), some (iv x2), some (iv x3), some (iv x4), some (iv x5)] [] B Q := by
  unfold r_feed_0 at w
  obtain ⟨p1, w⟩ := w
  refine z_ldk (ok := q_isA) (n := 0) (ck_at dt_feed 0 rfl) rfl rfl (fun _ => rfl) rfl rfl ?_
  refine z_getI (j := 2) (ck_at dt_feed 1 rfl) own_feed (mf_at 48 rfl) (by decide) rfl ?_
  refine z_op (ck_at dt_feed 2 rfl) rfl (o_bipush _ (by decide)) ?_
  refine z_op (ck_at dt_feed 3 rfl) rfl o_iadd ?_
  refine z_op (ck_at dt_feed 4 rfl) rfl (o_sipush _ (by decide)) ?_
  refine z_icmp (t := 19) (ck_at dt_feed 5 rfl) rfl p1 ⟨by decide, by decide⟩ ?_ ?_
  · intro q; have w := w.1 q
    refine z_ldk (ok := q_isA) (n := 0) (ck_at dt_feed 10 rfl) rfl rfl (fun _ => rfl) rfl rfl ?_
    refine z_op (ck_at dt_feed 11 rfl) rfl (o_const _) ?_
    refine z_putI (j := 0) hm (ck_at dt_feed 12 rfl) own_feed (mf_at 47 rfl) (by decide) rfl rfl rfl ?_
    refine z_ldk (ok := q_isA) (n := 0) (ck_at dt_feed 13 rfl) rfl rfl (fun _ => rfl) rfl rfl ?_
    refine z_ldk (ok := q_isI) (n := 1) (ck_at dt_feed 14 rfl) rfl rfl (fun _ => rfl) rfl rfl ?_
    refine z_virt (k' := k_four) (n := 1) (as := [iv x1]) (r := []) (ck_at dt_feed 15 rfl) own_feed (mm_at 1 rfl) vk_four rfl nl_four rfl rfl rfl rfl ?_
    exact w.mono (Nat.le_refl _) (fun o B' ⟨ho, w⟩ => ⟨none, ho, z_wk (r_feed_29_ok hm w) ⟨rfl, ⟨rfl, ⟨rfl, ⟨rfl, ⟨rfl, trivial⟩⟩⟩⟩⟩⟩)
  · intro q; have w := w.2 q
    refine z_ldk (ok := q_isA) (n := 0) (ck_at dt_feed 6 rfl) rfl rfl (fun _ => rfl) rfl rfl ?_
    refine z_op (ck_at dt_feed 7 rfl) rfl (o_const _) ?_
    refine z_virt (k' := k_refuse) (n := 0) (as := [iv 1]) (r := []) (ck_at dt_feed 8 rfl) own_feed (mm_at 0 rfl) vk_refuse rfl nl_refuse rfl rfl rfl rfl ?_
    exact w.mono (Nat.le_refl _) (fun o B' ⟨v, ho, w⟩ => ⟨some (iv v), ho, z_wk (r_feed_18_ok hm w) trivial⟩)
/-! four(I)V -/
def t_four : List (Nat × Instr × Nat) := [(0, .bipush 24, 2), (2, .istore_n 2, 1), (3, .iload_n 2, 1), (4, .ifCond .lt 35, 3), (7, .aload_n 0, 1), (8, .getfield 7, 3), (11, .aload_n 0, 1), (12, .getfield 159, 3), (15, .iload_n 1, 1), (16, .iload_n 2, 1), (17, .ishr, 1), (18, .sipush 255, 3), (21, .iand, 1), (22, .iastore, 1), (23, .aload_n 0, 1), (24, .dup, 1), (25, .getfield 159, 3), (28, .iconst 1, 1), (29, .iadd, 1), (30, .putfield 159, 3), (33, .iinc 2 (-8), 3), (36, .goto (-33), 3), (39, .return_, 1)]
set_option maxRecDepth 100000 in
theorem dt_four : q_ck k_four t_four = true := by decide +kernel
def r_four_3 (m : Nat) (h0 : qH) (d : Nat) (x1 x2 : Int) (B : qB) (Q : qO → qB → Prop) : Prop := R32 x2 ∧ (x2 < 0 → Q (.inl none) B) ∧ (x2 ≥ 0 → 0 ≤ B 2 0 ∧ B 2 0 < 1200 ∧ qZ m h0 (d + 1) k_four 3 [some (.ref m), some (iv x1), some (iv (x2 + (-8)))] [] (u2 (u2 B 1 (B 2 0) (iAnd (iShr x1 x2) 255)) 2 0 ((B 2 0) + 1)) Q)
theorem r_four_3_ok {m : Nat} {h0 : qH} {d : Nat} {x1 x2 : Int} {B : qB} {Q : qO → qB → Prop} (hm : m + 100 < 1000000000) (w : r_four_3 m h0 d x1 x2 B Q) : qZ m h0 (d + 1) k_four 3 [some (.ref m), some (iv x1), some (iv x2)] [] B Q := by
  unfold r_four_3 at w
  obtain ⟨p1, w⟩ := w
  refine z_ldk (ok := q_isI) (n := 2) (ck_at dt_four 2 rfl) rfl rfl (fun _ => rfl) rfl rfl ?_
  refine z_ifz (t := 39) (ck_at dt_four 3 rfl) rfl p1 ?_ ?_
  · intro q; have w := w.1 q
    exact z_ret0 (ck_at dt_four 22 rfl) rt_four w
  · intro q; have w := w.2 q
    obtain ⟨p2, p3, w⟩ := w
    refine z_ldk (ok := q_isA) (n := 0) (ck_at dt_four 4 rfl) rfl rfl (fun _ => rfl) rfl rfl ?_
    refine z_getR (j := 1) (a := 0) (ck_at dt_four 5 rfl) own_four (mf_at 0 rfl) (by decide) rfl rfl ?_
    refine z_ldk (ok := q_isA) (n := 0) (ck_at dt_four 6 rfl) rfl rfl (fun _ => rfl) rfl rfl ?_
    refine z_getI (j := 2) (ck_at dt_four 7 rfl) own_four (mf_at 48 rfl) (by decide) rfl ?_
    refine z_ldk (ok := q_isI) (n := 1) (ck_at dt_four 8 rfl) rfl rfl (fun _ => rfl) rfl rfl ?_
    refine z_ldk (ok := q_isI) (n := 2) (ck_at dt_four 9 rfl) rfl rfl (fun _ => rfl) rfl rfl ?_
    refine z_op (ck_at dt_four 10 rfl) rfl o_ishr ?_
    refine z_op (ck_at dt_four 11 rfl) rfl (o_sipush _ (by decide)) ?_
    refine z_op (ck_at dt_four 12 rfl) rfl o_iand ?_
    refine z_iast (j := 1) (n := 1200) hm (ck_at dt_four 13 rfl) rfl rfl rfl p2 p3 ?_
    refine z_ldk (ok := q_isA) (n := 0) (ck_at dt_four 14 rfl) rfl rfl (fun _ => rfl) rfl rfl ?_
    refine z_op (ck_at dt_four 15 rfl) rfl rfl ?_
    refine z_getI (j := 2) (ck_at dt_four 16 rfl) own_four (mf_at 48 rfl) (by decide) rfl ?_
    refine z_op (ck_at dt_four 17 rfl) rfl (o_const _) ?_
    refine z_op (ck_at dt_four 18 rfl) rfl o_iadd ?_
    refine z_putI (j := 2) hm (ck_at dt_four 19 rfl) own_four (mf_at 48 rfl) (by decide) rfl rfl rfl ?_
    refine z_iinc (n := 2) (L' := [some (.ref m), some (iv x1), some (iv (x2 + (-8)))]) (ck_at dt_four 20 rfl) rfl nl_four (by decide) rfl rfl ?_
    refine z_goto (t := 3) (ck_at dt_four 21 rfl) rfl ?_
    exact z_wk w ⟨rfl, ⟨rfl, ⟨rfl, trivial⟩⟩⟩
def r_four_0 (m : Nat) (h0 : qH) (d : Nat) (x1 : Int) (B : qB) (Q : qO → qB → Prop) : Prop := qZ m h0 (d + 1) k_four 3 [some (.ref m), some (iv x1), some (iv 24)] [] B Q
theorem r_four_0_ok {m : Nat} {h0 : qH} {d : Nat} {x1 : Int} {B : qB} {Q : qO → qB → Prop} (hm : m + 100 < 1000000000) (w : r_four_0 m h0 d x1 B Q) : qZ m h0 (d + 1) k_four 0 [some (.ref m), some (iv x1), none] [] B Q := by
  unfold r_four_0 at w
  refine z_op (ck_at dt_four 0 rfl) rfl (o_bipush _ (by decide)) ?_
  refine z_st1 (ok := q_isI) (n := 2) (L' := [some (.ref m), some (iv x1), some (iv 24)]) (ck_at dt_four 1 rfl) rfl (fun _ => rfl) (fun _ _ => rfl) rfl nl_four (by decide) rfl rfl ?_
  exact z_wk w ⟨rfl, ⟨rfl, ⟨rfl, trivial⟩⟩⟩
/-! end(I)I -/
def t_end : List (Nat × Instr × Nat) := [(0, .iload_n 1, 1), (1, .iconst 0, 1), (2, .aload_n 0, 1), (3, .getfield 159, 3), (6, .invokestatic 170, 3), (9, .ifCond .ne 9, 3), (12, .aload_n 0, 1), (13, .iconst 1, 1), (14, .invokevirtual 162, 3), (17, .ireturn, 1), (18, .aload_n 0, 1), (19, .iconst 0, 1), (20, .putfield 156, 3), (23, .aload_n 0, 1), (24, .iload_n 1, 1), (25, .putfield 159, 3), (28, .iload_n 1, 1), (29, .ireturn, 1)]
set_option maxRecDepth 100000 in
theorem dt_end : q_ck k_end t_end = true := by decide +kernel
def r_end_17 (m : Nat) (h0 : qH) (d : Nat) (s0 : Int) (B : qB) (Q : qO → qB → Prop) : Prop := Q (.inl (some (iv s0))) B
theorem r_end_17_ok {m : Nat} {h0 : qH} {d : Nat} {s0 : Int} {B : qB} {Q : qO → qB → Prop} (hm : m + 100 < 1000000000) (w : r_end_17 m h0 d s0 B Q) : qZ m h0 (d + 1) k_end 17 [none, none] [iv s0] B Q := by
  unfold r_end_17 at w
  exact z_retI (ck_at dt_end 9 rfl) rt_end w
def r_end_9 (m : Nat) (h0 : qH) (d : Nat) (x1 s0 : Int) (B : qB) (Q : qO → qB → Prop) : Prop := R32 s0 ∧ (¬ s0 = 0 → Q (.inl (some (iv x1))) (u2 (u2 B 0 0 0) 2 0 x1)) ∧ (s0 = 0 → qZ m h0 d k_refuse 0 [some (.ref m), some (iv 1)] [] B (fun o B' => ∃ v : Int, o = .inl (some (iv v)) ∧ r_end_17 m h0 d v B' Q))
theorem r_end_9_ok {m : Nat} {h0 : qH} {d : Nat} {x1 s0 : Int} {B : qB} {Q : qO → qB → Prop} (hm : m + 100 < 1000000000) (w : r_end_9 m h0 d x1 s0 B Q) : qZ m h0 (d + 1) k_end 9 [some (.ref m), some (iv x1)] [iv s0] B Q := by
  unfold r_end_9 at w
  obtain ⟨p1, w⟩ := w
  refine z_ifz (t := 18) (ck_at dt_end 5 rfl) rfl p1 ?_ ?_
  · intro q; have w := w.1 q
    refine z_ldk (ok := q_isA) (n := 0) (ck_at dt_end 10 rfl) rfl rfl (fun _ => rfl) rfl rfl ?_
    refine z_op (ck_at dt_end 11 rfl) rfl (o_const _) ?_
    refine z_putI (j := 0) hm (ck_at dt_end 12 rfl) own_end (mf_at 47 rfl) (by decide) rfl rfl rfl ?_
    refine z_ldk (ok := q_isA) (n := 0) (ck_at dt_end 13 rfl) rfl rfl (fun _ => rfl) rfl rfl ?_
    refine z_ldk (ok := q_isI) (n := 1) (ck_at dt_end 14 rfl) rfl rfl (fun _ => rfl) rfl rfl ?_
    refine z_putI (j := 2) hm (ck_at dt_end 15 rfl) own_end (mf_at 48 rfl) (by decide) rfl rfl rfl ?_
    refine z_ldk (ok := q_isI) (n := 1) (ck_at dt_end 16 rfl) rfl rfl (fun _ => rfl) rfl rfl ?_
    exact z_retI (ck_at dt_end 17 rfl) rt_end w
  · intro q; have w := w.2 q
    refine z_ldk (ok := q_isA) (n := 0) (ck_at dt_end 6 rfl) rfl rfl (fun _ => rfl) rfl rfl ?_
    refine z_op (ck_at dt_end 7 rfl) rfl (o_const _) ?_
    refine z_virt (k' := k_refuse) (n := 0) (as := [iv 1]) (r := []) (ck_at dt_end 8 rfl) own_end (mm_at 0 rfl) vk_refuse rfl nl_refuse rfl rfl rfl rfl ?_
    exact w.mono (Nat.le_refl _) (fun o B' ⟨v, ho, w⟩ => ⟨some (iv v), ho, z_wk (r_end_17_ok hm w) trivial⟩)
def r_end_0 (m : Nat) (h0 : qH) (d : Nat) (x1 : Int) (B : qB) (Q : qO → qB → Prop) : Prop := qZ m h0 d k_in 0 [some (iv x1), some (iv 0), some (iv (B 2 0))] [] B (fun o B' => ∃ v : Int, o = .inl (some (iv v)) ∧ r_end_9 m h0 d x1 v B' Q)
theorem r_end_0_ok {m : Nat} {h0 : qH} {d : Nat} {x1 : Int} {B : qB} {Q : qO → qB → Prop} (hm : m + 100 < 1000000000) (w : r_end_0 m h0 d x1 B Q) : qZ m h0 (d + 1) k_end 0 [some (.ref m), some (iv x1)] [] B Q := by
  unfold r_end_0 at w
  refine z_ldk (ok := q_isI) (n := 1) (ck_at dt_end 0 rfl) rfl rfl (fun _ => rfl) rfl rfl ?_
  refine z_op (ck_at dt_end 1 rfl) rfl (o_const _) ?_
  refine z_ldk (ok := q_isA) (n := 0) (ck_at dt_end 2 rfl) rfl rfl (fun _ => rfl) rfl rfl ?_
  refine z_getI (j := 2) (ck_at dt_end 3 rfl) own_end (mf_at 48 rfl) (by decide) rfl ?_
  refine z_stat (k' := k_in) (n := 0) (as := [iv x1, iv 0, iv (B 2 0)]) (r := []) (ck_at dt_end 4 rfl) own_end (mm_at 2 rfl) (ms_at 0 rfl) vk_in rfl nl_in rfl rfl rfl rfl ?_
  exact w.mono (Nat.le_refl _) (fun o B' ⟨v, ho, w⟩ => ⟨some (iv v), ho, z_wk (r_end_9_ok hm w) ⟨rfl, ⟨rfl, trivial⟩⟩⟩)
/-! take()V -/
def t_take : List (Nat × Instr × Nat) := [(0, .iconst 0, 1), (1, .istore_n 1, 1), (2, .iload_n 1, 1), (3, .aload_n 0, 1), (4, .getfield 159, 3), (7, .if_icmp .ge 21, 3), (10, .aload_n 0, 1), (11, .getfield 47, 3), (14, .iload_n 1, 1), (15, .aload_n 0, 1), (16, .getfield 7, 3), (19, .iload_n 1, 1), (20, .iaload, 1), (21, .iastore, 1), (22, .iinc 1 1, 3), (25, .goto (-23), 3), (28, .aload_n 0, 1), (29, .aload_n 0, 1), (30, .getfield 159, 3), (33, .putfield 174, 3), (36, .aload_n 0, 1), (37, .iconst 0, 1), (38, .putfield 159, 3), (41, .return_, 1)]
set_option maxRecDepth 100000 in
theorem dt_take : q_ck k_take t_take = true := by decide +kernel
def r_take_2 (m : Nat) (h0 : qH) (d : Nat) (x1 : Int) (B : qB) (Q : qO → qB → Prop) : Prop := R32 x1 ∧ R32 (B 2 0) ∧ (x1 ≥ B 2 0 → Q (.inl none) (u2 (u2 B 16 0 (B 2 0)) 2 0 0)) ∧ (x1 < B 2 0 → 0 ≤ x1 ∧ x1 < 1200 ∧ qZ m h0 (d + 1) k_take 2 [some (.ref m), some (iv (x1 + 1))] [] (u2 B 15 x1 (B 1 x1)) Q)
theorem r_take_2_ok {m : Nat} {h0 : qH} {d : Nat} {x1 : Int} {B : qB} {Q : qO → qB → Prop} (hm : m + 100 < 1000000000) (w : r_take_2 m h0 d x1 B Q) : qZ m h0 (d + 1) k_take 2 [some (.ref m), some (iv x1)] [] B Q := by
  unfold r_take_2 at w
  obtain ⟨p1, p2, w⟩ := w
  refine z_ldk (ok := q_isI) (n := 1) (ck_at dt_take 2 rfl) rfl rfl (fun _ => rfl) rfl rfl ?_
  refine z_ldk (ok := q_isA) (n := 0) (ck_at dt_take 3 rfl) rfl rfl (fun _ => rfl) rfl rfl ?_
  refine z_getI (j := 2) (ck_at dt_take 4 rfl) own_take (mf_at 48 rfl) (by decide) rfl ?_
  refine z_icmp (t := 28) (ck_at dt_take 5 rfl) rfl p1 p2 ?_ ?_
  · intro q; have w := w.1 q
    refine z_ldk (ok := q_isA) (n := 0) (ck_at dt_take 16 rfl) rfl rfl (fun _ => rfl) rfl rfl ?_
    refine z_ldk (ok := q_isA) (n := 0) (ck_at dt_take 17 rfl) rfl rfl (fun _ => rfl) rfl rfl ?_
    refine z_getI (j := 2) (ck_at dt_take 18 rfl) own_take (mf_at 48 rfl) (by decide) rfl ?_
    refine z_putI (j := 16) hm (ck_at dt_take 19 rfl) own_take (mf_at 49 rfl) (by decide) rfl rfl rfl ?_
    refine z_ldk (ok := q_isA) (n := 0) (ck_at dt_take 20 rfl) rfl rfl (fun _ => rfl) rfl rfl ?_
    refine z_op (ck_at dt_take 21 rfl) rfl (o_const _) ?_
    refine z_putI (j := 2) hm (ck_at dt_take 22 rfl) own_take (mf_at 48 rfl) (by decide) rfl rfl rfl ?_
    exact z_ret0 (ck_at dt_take 23 rfl) rt_take w
  · intro q; have w := w.2 q
    obtain ⟨p3, p4, w⟩ := w
    refine z_ldk (ok := q_isA) (n := 0) (ck_at dt_take 6 rfl) rfl rfl (fun _ => rfl) rfl rfl ?_
    refine z_getR (j := 15) (a := 11) (ck_at dt_take 7 rfl) own_take (mf_at 12 rfl) (by decide) rfl rfl ?_
    refine z_ldk (ok := q_isI) (n := 1) (ck_at dt_take 8 rfl) rfl rfl (fun _ => rfl) rfl rfl ?_
    refine z_ldk (ok := q_isA) (n := 0) (ck_at dt_take 9 rfl) rfl rfl (fun _ => rfl) rfl rfl ?_
    refine z_getR (j := 1) (a := 0) (ck_at dt_take 10 rfl) own_take (mf_at 0 rfl) (by decide) rfl rfl ?_
    refine z_ldk (ok := q_isI) (n := 1) (ck_at dt_take 11 rfl) rfl rfl (fun _ => rfl) rfl rfl ?_
    refine z_iald (j := 1) (n := 1200) (ck_at dt_take 12 rfl) rfl rfl rfl p3 p4 ?_
    refine z_iast (j := 15) (n := 1200) hm (ck_at dt_take 13 rfl) rfl rfl rfl p3 p4 ?_
    refine z_iinc (n := 1) (L' := [some (.ref m), some (iv (x1 + 1))]) (ck_at dt_take 14 rfl) rfl nl_take (by decide) rfl rfl ?_
    refine z_goto (t := 2) (ck_at dt_take 15 rfl) rfl ?_
    exact z_wk w ⟨rfl, ⟨rfl, trivial⟩⟩
def r_take_0 (m : Nat) (h0 : qH) (d : Nat) (B : qB) (Q : qO → qB → Prop) : Prop := qZ m h0 (d + 1) k_take 2 [some (.ref m), some (iv 0)] [] B Q
theorem r_take_0_ok {m : Nat} {h0 : qH} {d : Nat} {B : qB} {Q : qO → qB → Prop} (hm : m + 100 < 1000000000) (w : r_take_0 m h0 d B Q) : qZ m h0 (d + 1) k_take 0 [some (.ref m), none] [] B Q := by
  unfold r_take_0 at w
  refine z_op (ck_at dt_take 0 rfl) rfl (o_const _) ?_
  refine z_st1 (ok := q_isI) (n := 1) (L' := [some (.ref m), some (iv 0)]) (ck_at dt_take 1 rfl) rfl (fun _ => rfl) (fun _ _ => rfl) rfl nl_take (by decide) rfl rfl ?_
  exact z_wk w ⟨rfl, ⟨rfl, trivial⟩⟩
/-! signAt(I)I -/
def t_signAt : List (Nat × Instr × Nat) := [(0, .iload_n 1, 1), (1, .aload_n 0, 1), (2, .getfield 177, 3), (5, .if_icmp .ge 12, 3), (8, .aload_n 0, 1), (9, .getfield 82, 3), (12, .iload_n 1, 1), (13, .iaload, 1), (14, .goto 4, 3), (17, .iconst (-1), 1), (18, .ireturn, 1)]
set_option maxRecDepth 100000 in
theorem dt_signAt : q_ck k_signAt t_signAt = true := by decide +kernel
def r_signAt_0 (m : Nat) (h0 : qH) (d : Nat) (x1 : Int) (B : qB) (Q : qO → qB → Prop) : Prop := R32 x1 ∧ R32 (B 32 0) ∧ (x1 ≥ B 32 0 → Q (.inl (some (iv (-1)))) B) ∧ (x1 < B 32 0 → 0 ≤ x1 ∧ x1 < 200 ∧ Q (.inl (some (iv (B 31 x1)))) B)
theorem r_signAt_0_ok {m : Nat} {h0 : qH} {d : Nat} {x1 : Int} {B : qB} {Q : qO → qB → Prop} (hm : m + 100 < 1000000000) (w : r_signAt_0 m h0 d x1 B Q) : qZ m h0 (d + 1) k_signAt 0 [some (.ref m), some (iv x1)] [] B Q := by
  unfold r_signAt_0 at w
  obtain ⟨p1, p2, w⟩ := w
  refine z_ldk (ok := q_isI) (n := 1) (ck_at dt_signAt 0 rfl) rfl rfl (fun _ => rfl) rfl rfl ?_
  refine z_ldk (ok := q_isA) (n := 0) (ck_at dt_signAt 1 rfl) rfl rfl (fun _ => rfl) rfl rfl ?_
  refine z_getI (j := 32) (ck_at dt_signAt 2 rfl) own_signAt (mf_at 50 rfl) (by decide) rfl ?_
  refine z_icmp (t := 17) (ck_at dt_signAt 3 rfl) rfl p1 p2 ?_ ?_
  · intro q; have w := w.1 q
    refine z_op (ck_at dt_signAt 9 rfl) rfl (o_const _) ?_
    exact z_retI (ck_at dt_signAt 10 rfl) rt_signAt w
  · intro q; have w := w.2 q
    obtain ⟨p3, p4, w⟩ := w
    refine z_ldk (ok := q_isA) (n := 0) (ck_at dt_signAt 4 rfl) rfl rfl (fun _ => rfl) rfl rfl ?_
    refine z_getR (j := 31) (a := 22) (ck_at dt_signAt 5 rfl) own_signAt (mf_at 23 rfl) (by decide) rfl rfl ?_
    refine z_ldk (ok := q_isI) (n := 1) (ck_at dt_signAt 6 rfl) rfl rfl (fun _ => rfl) rfl rfl ?_
    refine z_iald (j := 31) (n := 200) (ck_at dt_signAt 7 rfl) rfl rfl rfl p3 p4 ?_
    refine z_goto (t := 18) (ck_at dt_signAt 8 rfl) rfl ?_
    exact z_retI (ck_at dt_signAt 10 rfl) rt_signAt w
/-! newNode(III)I -/
def t_newNode : List (Nat × Instr × Nat) := [(0, .aload_n 0, 1), (1, .getfield 50, 3), (4, .aload_n 0, 1), (5, .getfield 180, 3), (8, .iload_n 1, 1), (9, .iastore, 1), (10, .aload_n 0, 1), (11, .getfield 53, 3), (14, .aload_n 0, 1), (15, .getfield 180, 3), (18, .iload_n 2, 1), (19, .iastore, 1), (20, .aload_n 0, 1), (21, .getfield 56, 3), (24, .aload_n 0, 1), (25, .getfield 180, 3), (28, .iload_n 3, 1), (29, .iastore, 1), (30, .aload_n 0, 1), (31, .getfield 59, 3), (34, .aload_n 0, 1), (35, .getfield 180, 3), (38, .iconst 0, 1), (39, .iastore, 1), (40, .aload_n 0, 1), (41, .getfield 62, 3), (44, .aload_n 0, 1), (45, .getfield 180, 3), (48, .iconst 0, 1), (49, .iastore, 1), (50, .aload_n 0, 1), (51, .getfield 65, 3), (54, .aload_n 0, 1), (55, .getfield 180, 3), (58, .iconst 0, 1), (59, .iastore, 1), (60, .aload_n 0, 1), (61, .getfield 71, 3), (64, .aload_n 0, 1), (65, .getfield 180, 3), (68, .iconst 0, 1), (69, .iastore, 1), (70, .aload_n 0, 1), (71, .getfield 74, 3), (74, .aload_n 0, 1), (75, .getfield 180, 3), (78, .iconst 0, 1), (79, .bastore, 1), (80, .aload_n 0, 1), (81, .dup, 1), (82, .getfield 180, 3), (85, .iconst 1, 1), (86, .iadd, 1), (87, .putfield 180, 3), (90, .aload_n 0, 1), (91, .getfield 180, 3), (94, .iconst 1, 1), (95, .isub, 1), (96, .ireturn, 1)]
set_option maxRecDepth 100000 in
theorem dt_newNode : q_ck k_newNode t_newNode = true := by decide +kernel
def r_newNode_0 (m : Nat) (h0 : qH) (d : Nat) (x1 x2 x3 : Int) (B : qB) (Q : qO → qB → Prop) : Prop := 0 ≤ B 28 0 ∧ B 28 0 < 3000 ∧ Q (.inl (some (iv (((B 28 0) + 1) - 1)))) (u2 (u2 (u2 (u2 (u2 (u2 (u2 (u2 (u2 B 17 (B 28 0) x1) 18 (B 28 0) x2) 19 (B 28 0) x3) 20 (B 28 0) 0) 21 (B 28 0) 0) 22 (B 28 0) 0) 24 (B 28 0) 0) 25 (B 28 0) 0) 28 0 ((B 28 0) + 1))
theorem r_newNode_0_ok {m : Nat} {h0 : qH} {d : Nat} {x1 x2 x3 : Int} {B : qB} {Q : qO → qB → Prop} (hm : m + 100 < 1000000000) (w : r_newNode_0 m h0 d x1 x2 x3 B Q) : qZ m h0 (d + 1) k_newNode 0 [some (.ref m), some (iv x1), some (iv x2), some (iv x3)] [] B Q := by
  unfold r_newNode_0 at w
  obtain ⟨p1, p2, w⟩ := w
  refine z_ldk (ok := q_isA) (n := 0) (ck_at dt_newNode 0 rfl) rfl rfl (fun _ => rfl) rfl rfl ?_
  refine z_getR (j := 17) (a := 12) (ck_at dt_newNode 1 rfl) own_newNode (mf_at 13 rfl) (by decide) rfl rfl ?_
  refine z_ldk (ok := q_isA) (n := 0) (ck_at dt_newNode 2 rfl) rfl rfl (fun _ => rfl) rfl rfl ?_
  refine z_getI (j := 28) (ck_at dt_newNode 3 rfl) own_newNode (mf_at 54 rfl) (by decide) rfl ?_
  refine z_ldk (ok := q_isI) (n := 1) (ck_at dt_newNode 4 rfl) rfl rfl (fun _ => rfl) rfl rfl ?_
  refine z_iast (j := 17) (n := 3000) hm (ck_at dt_newNode 5 rfl) rfl rfl rfl p1 p2 ?_
  refine z_ldk (ok := q_isA) (n := 0) (ck_at dt_newNode 6 rfl) rfl rfl (fun _ => rfl) rfl rfl ?_
  refine z_getR (j := 18) (a := 13) (ck_at dt_newNode 7 rfl) own_newNode (mf_at 14 rfl) (by decide) rfl rfl ?_
  refine z_ldk (ok := q_isA) (n := 0) (ck_at dt_newNode 8 rfl) rfl rfl (fun _ => rfl) rfl rfl ?_
  refine z_getI (j := 28) (ck_at dt_newNode 9 rfl) own_newNode (mf_at 54 rfl) (by decide) rfl ?_
  refine z_ldk (ok := q_isI) (n := 2) (ck_at dt_newNode 10 rfl) rfl rfl (fun _ => rfl) rfl rfl ?_
  refine z_iast (j := 18) (n := 3000) hm (ck_at dt_newNode 11 rfl) rfl rfl rfl p1 p2 ?_
  refine z_ldk (ok := q_isA) (n := 0) (ck_at dt_newNode 12 rfl) rfl rfl (fun _ => rfl) rfl rfl ?_
  refine z_getR (j := 19) (a := 14) (ck_at dt_newNode 13 rfl) own_newNode (mf_at 15 rfl) (by decide) rfl rfl ?_
  refine z_ldk (ok := q_isA) (n := 0) (ck_at dt_newNode 14 rfl) rfl rfl (fun _ => rfl) rfl rfl ?_
  refine z_getI (j := 28) (ck_at dt_newNode 15 rfl) own_newNode (mf_at 54 rfl) (by decide) rfl ?_
  refine z_ldk (ok := q_isI) (n := 3) (ck_at dt_newNode 16 rfl) rfl rfl (fun _ => rfl) rfl rfl ?_
  refine z_iast (j := 19) (n := 3000) hm (ck_at dt_newNode 17 rfl) rfl rfl rfl p1 p2 ?_
  refine z_ldk (ok := q_isA) (n := 0) (ck_at dt_newNode 18 rfl) rfl rfl (fun _ => rfl) rfl rfl ?_
  refine z_getR (j := 20) (a := 15) (ck_at dt_newNode 19 rfl) own_newNode (mf_at 16 rfl) (by decide) rfl rfl ?_
  refine z_ldk (ok := q_isA) (n := 0) (ck_at dt_newNode 20 rfl) rfl rfl (fun _ => rfl) rfl rfl ?_
  refine z_getI (j := 28) (ck_at dt_newNode 21 rfl) own_newNode (mf_at 54 rfl) (by decide) rfl ?_
  refine z_op (ck_at dt_newNode 22 rfl) rfl (o_const _) ?_
  refine z_iast (j := 20) (n := 3000) hm (ck_at dt_newNode 23 rfl) rfl rfl rfl p1 p2 ?_
  refine z_ldk (ok := q_isA) (n := 0) (ck_at dt_newNode 24 rfl) rfl rfl (fun _ => rfl) rfl rfl ?_
  refine z_getR (j := 21) (a := 16) (ck_at dt_newNode 25 rfl) own_newNode (mf_at 17 rfl) (by decide) rfl rfl ?_
  refine z_ldk (ok := q_isA) (n := 0) (ck_at dt_newNode 26 rfl) rfl rfl (fun _ => rfl) rfl rfl ?_
  refine z_getI (j := 28) (ck_at dt_newNode 27 rfl) own_newNode (mf_at 54 rfl) (by decide) rfl ?_
  refine z_op (ck_at dt_newNode 28 rfl) rfl (o_const _) ?_
  refine z_iast (j := 21) (n := 3000) hm (ck_at dt_newNode 29 rfl) rfl rfl rfl p1 p2 ?_
  refine z_ldk (ok := q_isA) (n := 0) (ck_at dt_newNode 30 rfl) rfl rfl (fun _ => rfl) rfl rfl ?_
  refine z_getR (j := 22) (a := 17) (ck_at dt_newNode 31 rfl) own_newNode (mf_at 18 rfl) (by decide) rfl rfl ?_
  refine z_ldk (ok := q_isA) (n := 0) (ck_at dt_newNode 32 rfl) rfl rfl (fun _ => rfl) rfl rfl ?_
  refine z_getI (j := 28) (ck_at dt_newNode 33 rfl) own_newNode (mf_at 54 rfl) (by decide) rfl ?_
  refine z_op (ck_at dt_newNode 34 rfl) rfl (o_const _) ?_
  refine z_iast (j := 22) (n := 3000) hm (ck_at dt_newNode 35 rfl) rfl rfl rfl p1 p2 ?_
  refine z_ldk (ok := q_isA) (n := 0) (ck_at dt_newNode 36 rfl) rfl rfl (fun _ => rfl) rfl rfl ?_
  refine z_getR (j := 24) (a := 19) (ck_at dt_newNode 37 rfl) own_newNode (mf_at 20 rfl) (by decide) rfl rfl ?_
  refine z_ldk (ok := q_isA) (n := 0) (ck_at dt_newNode 38 rfl) rfl rfl (fun _ => rfl) rfl rfl ?_
  refine z_getI (j := 28) (ck_at dt_newNode 39 rfl) own_newNode (mf_at 54 rfl) (by decide) rfl ?_
  refine z_op (ck_at dt_newNode 40 rfl) rfl (o_const _) ?_
  refine z_iast (j := 24) (n := 3000) hm (ck_at dt_newNode 41 rfl) rfl rfl rfl p1 p2 ?_
  refine z_ldk (ok := q_isA) (n := 0) (ck_at dt_newNode 42 rfl) rfl rfl (fun _ => rfl) rfl rfl ?_
  refine z_getR (j := 25) (a := 20) (ck_at dt_newNode 43 rfl) own_newNode (mf_at 21 rfl) (by decide) rfl rfl ?_
  refine z_ldk (ok := q_isA) (n := 0) (ck_at dt_newNode 44 rfl) rfl rfl (fun _ => rfl) rfl rfl ?_
  refine z_getI (j := 28) (ck_at dt_newNode 45 rfl) own_newNode (mf_at 54 rfl) (by decide) rfl ?_
  refine z_op (ck_at dt_newNode 46 rfl) rfl (o_const _) ?_
  refine z_bast (j := 25) (n := 3000) hm (ck_at dt_newNode 47 rfl) rfl rfl rfl p1 p2 (by decide) ?_
  refine z_ldk (ok := q_isA) (n := 0) (ck_at dt_newNode 48 rfl) rfl rfl (fun _ => rfl) rfl rfl ?_
  refine z_op (ck_at dt_newNode 49 rfl) rfl rfl ?_
  refine z_getI (j := 28) (ck_at dt_newNode 50 rfl) own_newNode (mf_at 54 rfl) (by decide) rfl ?_
  refine z_op (ck_at dt_newNode 51 rfl) rfl (o_const _) ?_
  refine z_op (ck_at dt_newNode 52 rfl) rfl o_iadd ?_
  refine z_putI (j := 28) hm (ck_at dt_newNode 53 rfl) own_newNode (mf_at 54 rfl) (by decide) rfl rfl rfl ?_
  refine z_ldk (ok := q_isA) (n := 0) (ck_at dt_newNode 54 rfl) rfl rfl (fun _ => rfl) rfl rfl ?_
  refine z_getI (j := 28) (ck_at dt_newNode 55 rfl) own_newNode (mf_at 54 rfl) (by decide) rfl ?_
  refine z_op (ck_at dt_newNode 56 rfl) rfl (o_const _) ?_
  refine z_op (ck_at dt_newNode 57 rfl) rfl o_isub ?_
  exact z_retI (ck_at dt_newNode 58 rfl) rt_newNode w
/-! wrong(I)I -/
def t_wrong : List (Nat × Instr × Nat) := [(0, .aload_n 0, 1), (1, .getfield 183, 3), (4, .ifCond .ge 8, 3), (7, .aload_n 0, 1), (8, .iload_n 1, 1), (9, .putfield 183, 3), (12, .iconst 0, 1), (13, .ireturn, 1)]
set_option maxRecDepth 100000 in
theorem dt_wrong : q_ck k_wrong t_wrong = true := by decide +kernel
def r_wrong_0 (m : Nat) (h0 : qH) (d : Nat) (x1 : Int) (B : qB) (Q : qO → qB → Prop) : Prop := R32 (B 35 0) ∧ (B 35 0 ≥ 0 → Q (.inl (some (iv 0))) B) ∧ (B 35 0 < 0 → Q (.inl (some (iv 0))) (u2 B 35 0 x1))
theorem r_wrong_0_ok {m : Nat} {h0 : qH} {d : Nat} {x1 : Int} {B : qB} {Q : qO → qB → Prop} (hm : m + 100 < 1000000000) (w : r_wrong_0 m h0 d x1 B Q) : qZ m h0 (d + 1) k_wrong 0 [some (.ref m), some (iv x1)] [] B Q := by
  unfold r_wrong_0 at w
  obtain ⟨p1, w⟩ := w
  refine z_ldk (ok := q_isA) (n := 0) (ck_at dt_wrong 0 rfl) rfl rfl (fun _ => rfl) rfl rfl ?_
  refine z_getI (j := 35) (ck_at dt_wrong 1 rfl) own_wrong (mf_at 51 rfl) (by decide) rfl ?_
  refine z_ifz (t := 12) (ck_at dt_wrong 2 rfl) rfl p1 ?_ ?_
  · intro q; have w := w.1 q
    refine z_op (ck_at dt_wrong 6 rfl) rfl (o_const _) ?_
    exact z_retI (ck_at dt_wrong 7 rfl) rt_wrong w
  · intro q; have w := w.2 q
    refine z_ldk (ok := q_isA) (n := 0) (ck_at dt_wrong 3 rfl) rfl rfl (fun _ => rfl) rfl rfl ?_
    refine z_ldk (ok := q_isI) (n := 1) (ck_at dt_wrong 4 rfl) rfl rfl (fun _ => rfl) rfl rfl ?_
    refine z_putI (j := 35) hm (ck_at dt_wrong 5 rfl) own_wrong (mf_at 51 rfl) (by decide) rfl rfl rfl ?_
    refine z_op (ck_at dt_wrong 6 rfl) rfl (o_const _) ?_
    exact z_retI (ck_at dt_wrong 7 rfl) rt_wrong w
/-! newSet()I -/
def t_newSet : List (Nat × Instr × Nat) := [(0, .iconst 0, 1), (1, .istore_n 1, 1), (2, .iload_n 1, 1), (3, .iconst 4, 1), (4, .if_icmp .ge 23, 3), (7, .aload_n 0, 1), (8, .getfield 78, 3), (11, .iconst 4, 1), (12, .aload_n 0, 1), (13, .getfield 186, 3), (16, .imul, 1), (17, .iload_n 1, 1), (18, .iadd, 1), (19, .lconst 0, 1), (20, .lastore, 1), (21, .iinc 1 1, 3), (24, .goto (-22), 3), (27, .aload_n 0, 1), (28, .dup, 1), (29, .getfield 186, 3), (32, .iconst 1, 1), (33, .iadd, 1), (34, .putfield 186, 3), (37, .aload_n 0, 1), (38, .getfield 186, 3), (41, .iconst 1, 1), (42, .isub, 1), (43, .ireturn, 1)]
set_option maxRecDepth 100000 in
theorem dt_newSet : q_ck k_newSet t_newSet = true := by decide +kernel
def r_newSet_2 (m : Nat) (h0 : qH) (d : Nat) (x1 : Int) (B : qB) (Q : qO → qB → Prop) : Prop := R32 x1 ∧ (x1 ≥ 4 → Q (.inl (some (iv (((B 29 0) + 1) - 1)))) (u2 B 29 0 ((B 29 0) + 1))) ∧ (x1 < 4 → 0 ≤ (4 * (B 29 0)) + x1 ∧ (4 * (B 29 0)) + x1 < 1024 ∧ qZ m h0 (d + 1) k_newSet 2 [some (.ref m), some (iv (x1 + 1))] [] (u2 B 27 ((4 * (B 29 0)) + x1) 0) Q)
theorem r_newSet_2_ok {m : Nat} {h0 : qH} {d : Nat} {x1 : Int} {B : qB} {Q : qO → qB → Prop} (hm : m + 100 < 1000000000) (w : r_newSet_2 m h0 d x1 B Q) : qZ m h0 (d + 1) k_newSet 2 [some (.ref m), some (iv x1)] [] B Q := by
  unfold r_newSet_2 at w
  obtain ⟨p1, w⟩ := w
  refine z_ldk (ok := q_isI) (n := 1) (ck_at dt_newSet 2 rfl) rfl rfl (fun _ => rfl) rfl rfl ?_
  refine z_op (ck_at dt_newSet 3 rfl) rfl (o_const _) ?_
  refine z_icmp (t := 27) (ck_at dt_newSet 4 rfl) rfl p1 ⟨by decide, by decide⟩ ?_ ?_
  · intro q; have w := w.1 q
    refine z_ldk (ok := q_isA) (n := 0) (ck_at dt_newSet 17 rfl) rfl rfl (fun _ => rfl) rfl rfl ?_
    refine z_op (ck_at dt_newSet 18 rfl) rfl rfl ?_
    refine z_getI (j := 29) (ck_at dt_newSet 19 rfl) own_newSet (mf_at 55 rfl) (by decide) rfl ?_
    refine z_op (ck_at dt_newSet 20 rfl) rfl (o_const _) ?_
    refine z_op (ck_at dt_newSet 21 rfl) rfl o_iadd ?_
    refine z_putI (j := 29) hm (ck_at dt_newSet 22 rfl) own_newSet (mf_at 55 rfl) (by decide) rfl rfl rfl ?_
    refine z_ldk (ok := q_isA) (n := 0) (ck_at dt_newSet 23 rfl) rfl rfl (fun _ => rfl) rfl rfl ?_
    refine z_getI (j := 29) (ck_at dt_newSet 24 rfl) own_newSet (mf_at 55 rfl) (by decide) rfl ?_
    refine z_op (ck_at dt_newSet 25 rfl) rfl (o_const _) ?_
    refine z_op (ck_at dt_newSet 26 rfl) rfl o_isub ?_
    exact z_retI (ck_at dt_newSet 27 rfl) rt_newSet w
  · intro q; have w := w.2 q
    obtain ⟨p2, p3, w⟩ := w
    refine z_ldk (ok := q_isA) (n := 0) (ck_at dt_newSet 5 rfl) rfl rfl (fun _ => rfl) rfl rfl ?_
    refine z_getR (j := 27) (a := 21) (ck_at dt_newSet 6 rfl) own_newSet (mf_at 22 rfl) (by decide) rfl rfl ?_
    refine z_op (ck_at dt_newSet 7 rfl) rfl (o_const _) ?_
    refine z_ldk (ok := q_isA) (n := 0) (ck_at dt_newSet 8 rfl) rfl rfl (fun _ => rfl) rfl rfl ?_
    refine z_getI (j := 29) (ck_at dt_newSet 9 rfl) own_newSet (mf_at 55 rfl) (by decide) rfl ?_
    refine z_op (ck_at dt_newSet 10 rfl) rfl o_imul ?_
    refine z_ldk (ok := q_isI) (n := 1) (ck_at dt_newSet 11 rfl) rfl rfl (fun _ => rfl) rfl rfl ?_
    refine z_op (ck_at dt_newSet 12 rfl) rfl o_iadd ?_
    refine z_op (ck_at dt_newSet 13 rfl) rfl o_lconst0 ?_
    refine z_last (j := 27) (n := 1024) hm (ck_at dt_newSet 14 rfl) rfl rfl rfl p2 p3 ?_
    refine z_iinc (n := 1) (L' := [some (.ref m), some (iv (x1 + 1))]) (ck_at dt_newSet 15 rfl) rfl nl_newSet (by decide) rfl rfl ?_
    refine z_goto (t := 2) (ck_at dt_newSet 16 rfl) rfl ?_
    exact z_wk w ⟨rfl, ⟨rfl, trivial⟩⟩
def r_newSet_0 (m : Nat) (h0 : qH) (d : Nat) (B : qB) (Q : qO → qB → Prop) : Prop := qZ m h0 (d + 1) k_newSet 2 [some (.ref m), some (iv 0)] [] B Q
theorem r_newSet_0_ok {m : Nat} {h0 : qH} {d : Nat} {B : qB} {Q : qO → qB → Prop} (hm : m + 100 < 1000000000) (w : r_newSet_0 m h0 d B Q) : qZ m h0 (d + 1) k_newSet 0 [some (.ref m), none] [] B Q := by
  unfold r_newSet_0 at w
  refine z_op (ck_at dt_newSet 0 rfl) rfl (o_const _) ?_
  refine z_st1 (ok := q_isI) (n := 1) (L' := [some (.ref m), some (iv 0)]) (ck_at dt_newSet 1 rfl) rfl (fun _ => rfl) (fun _ _ => rfl) rfl nl_newSet (by decide) rfl rfl ?_
  exact z_wk w ⟨rfl, ⟨rfl, trivial⟩⟩
/-! include(II)V -/
def t_include : List (Nat × Instr × Nat) := [(0, .aload_n 0, 1), (1, .getfield 78, 3), (4, .iconst 4, 1), (5, .iload_n 1, 1), (6, .imul, 1), (7, .iload_n 2, 1), (8, .bipush 6, 2), (10, .ishr, 1), (11, .iadd, 1), (12, .dup2, 1), (13, .laload, 1), (14, .lconst 1, 1), (15, .iload_n 2, 1), (16, .bipush 63, 2), (18, .iand, 1), (19, .lshl, 1), (20, .lor, 1), (21, .lastore, 1), (22, .return_, 1)]
set_option maxRecDepth 100000 in
theorem dt_include : q_ck k_include t_include = true := by decide +kernel
def r_include_0 (m : Nat) (h0 : qH) (d : Nat) (x1 x2 : Int) (B : qB) (Q : qO → qB → Prop) : Prop := 0 ≤ (4 * x1) + (iShr x2 6) ∧ (4 * x1) + (iShr x2 6) < 1024 ∧ Q (.inl none) (u2 B 27 ((4 * x1) + (iShr x2 6)) (lOr (B 27 ((4 * x1) + (iShr x2 6))) (lShl 1 (iAnd x2 63))))
theorem r_include_0_ok {m : Nat} {h0 : qH} {d : Nat} {x1 x2 : Int} {B : qB} {Q : qO → qB → Prop} (hm : m + 100 < 1000000000) (w : r_include_0 m h0 d x1 x2 B Q) : qZ m h0 (d + 1) k_include 0 [some (.ref m), some (iv x1), some (iv x2)] [] B Q := by
  unfold r_include_0 at w
  obtain ⟨p1, p2, w⟩ := w
  refine z_ldk (ok := q_isA) (n := 0) (ck_at dt_include 0 rfl) rfl rfl (fun _ => rfl) rfl rfl ?_
  refine z_getR (j := 27) (a := 21) (ck_at dt_include 1 rfl) own_include (mf_at 22 rfl) (by decide) rfl rfl ?_
  refine z_op (ck_at dt_include 2 rfl) rfl (o_const _) ?_
  refine z_ldk (ok := q_isI) (n := 1) (ck_at dt_include 3 rfl) rfl rfl (fun _ => rfl) rfl rfl ?_
  refine z_op (ck_at dt_include 4 rfl) rfl o_imul ?_
  refine z_ldk (ok := q_isI) (n := 2) (ck_at dt_include 5 rfl) rfl rfl (fun _ => rfl) rfl rfl ?_
  refine z_op (ck_at dt_include 6 rfl) rfl (o_bipush _ (by decide)) ?_
  refine z_op (ck_at dt_include 7 rfl) rfl o_ishr ?_
  refine z_op (ck_at dt_include 8 rfl) rfl o_iadd ?_
  refine z_op (ck_at dt_include 9 rfl) rfl rfl ?_
  refine z_lald (j := 27) (n := 1024) (ck_at dt_include 10 rfl) rfl rfl rfl p1 p2 ?_
  refine z_op (ck_at dt_include 11 rfl) rfl o_lconst1 ?_
  refine z_ldk (ok := q_isI) (n := 2) (ck_at dt_include 12 rfl) rfl rfl (fun _ => rfl) rfl rfl ?_
  refine z_op (ck_at dt_include 13 rfl) rfl (o_bipush _ (by decide)) ?_
  refine z_op (ck_at dt_include 14 rfl) rfl o_iand ?_
  refine z_op (ck_at dt_include 15 rfl) rfl o_lshl ?_
  refine z_op (ck_at dt_include 16 rfl) rfl o_lor ?_
  refine z_last (j := 27) (n := 1024) hm (ck_at dt_include 17 rfl) rfl rfl rfl p1 p2 ?_
  exact z_ret0 (ck_at dt_include 18 rfl) rt_include w
/-! has(II)Z -/
def t_has : List (Nat × Instr × Nat) := [(0, .aload_n 0, 1), (1, .getfield 78, 3), (4, .iconst 4, 1), (5, .iload_n 1, 1), (6, .imul, 1), (7, .iload_n 2, 1), (8, .bipush 6, 2), (10, .ishr, 1), (11, .iadd, 1), (12, .laload, 1), (13, .iload_n 2, 1), (14, .bipush 63, 2), (16, .iand, 1), (17, .lshr, 1), (18, .lconst 1, 1), (19, .land, 1), (20, .lconst 1, 1), (21, .lcmp, 1), (22, .ifCond .ne 7, 3), (25, .iconst 1, 1), (26, .goto 4, 3), (29, .iconst 0, 1), (30, .ireturn, 1)]
set_option maxRecDepth 100000 in
theorem dt_has : q_ck k_has t_has = true := by decide +kernel
def r_has_0 (m : Nat) (h0 : qH) (d : Nat) (x1 x2 : Int) (B : qB) (Q : qO → qB → Prop) : Prop := 0 ≤ (4 * x1) + (iShr x2 6) ∧ (4 * x1) + (iShr x2 6) < 1024 ∧ (¬ lCmp (lAnd (lShr (B 27 ((4 * x1) + (iShr x2 6))) (iAnd x2 63)) 1) 1 = 0 → Q (.inl (some (iv 0))) B) ∧ (lCmp (lAnd (lShr (B 27 ((4 * x1) + (iShr x2 6))) (iAnd x2 63)) 1) 1 = 0 → Q (.inl (some (iv 1))) B)
theorem r_has_0_ok {m : Nat} {h0 : qH} {d : Nat} {x1 x2 : Int} {B : qB} {Q : qO → qB → Prop} (hm : m + 100 < 1000000000) (w : r_has_0 m h0 d x1 x2 B Q) : qZ m h0 (d + 1) k_has 0 [some (.ref m), some (iv x1), some (iv x2)] [] B Q := by
  unfold r_has_0 at w
  obtain ⟨p1, p2, w⟩ := w
  refine z_ldk (ok := q_isA) (n := 0) (ck_at dt_has 0 rfl) rfl rfl (fun _ => rfl) rfl rfl ?_
  refine z_getR (j := 27) (a := 21) (ck_at dt_has 1 rfl) own_has (mf_at 22 rfl) (by decide) rfl rfl ?_
  refine z_op (ck_at dt_has 2 rfl) rfl (o_const _) ?_
  refine z_ldk (ok := q_isI) (n := 1) (ck_at dt_has 3 rfl) rfl rfl (fun _ => rfl) rfl rfl ?_
  refine z_op (ck_at dt_has 4 rfl) rfl o_imul ?_
  refine z_ldk (ok := q_isI) (n := 2) (ck_at dt_has 5 rfl) rfl rfl (fun _ => rfl) rfl rfl ?_
  refine z_op (ck_at dt_has 6 rfl) rfl (o_bipush _ (by decide)) ?_
  refine z_op (ck_at dt_has 7 rfl) rfl o_ishr ?_
  refine z_op (ck_at dt_has 8 rfl) rfl o_iadd ?_
  refine z_lald (j := 27) (n := 1024) (ck_at dt_has 9 rfl) rfl rfl rfl p1 p2 ?_
  refine z_ldk (ok := q_isI) (n := 2) (ck_at dt_has 10 rfl) rfl rfl (fun _ => rfl) rfl rfl ?_
  refine z_op (ck_at dt_has 11 rfl) rfl (o_bipush _ (by decide)) ?_
  refine z_op (ck_at dt_has 12 rfl) rfl o_iand ?_
  refine z_op (ck_at dt_has 13 rfl) rfl o_lshr ?_
  refine z_op (ck_at dt_has 14 rfl) rfl o_lconst1 ?_
  refine z_op (ck_at dt_has 15 rfl) rfl o_land ?_
  refine z_op (ck_at dt_has 16 rfl) rfl o_lconst1 ?_
  refine z_op (ck_at dt_has 17 rfl) rfl o_lcmp ?_
  refine z_ifz (t := 29) (ck_at dt_has 18 rfl) rfl (R32_i _) ?_ ?_
  · intro q; have w := w.1 q
    refine z_op (ck_at dt_has 21 rfl) rfl (o_const _) ?_
    exact z_retZ (ck_at dt_has 22 rfl) rt_has (by decide) w
  · intro q; have w := w.2 q
    refine z_op (ck_at dt_has 19 rfl) rfl (o_const _) ?_
    refine z_goto (t := 30) (ck_at dt_has 20 rfl) rfl ?_
    exact z_retZ (ck_at dt_has 22 rfl) rt_has (by decide) w
/-! isWord(I)Z -/
def t_isWord : List (Nat × Instr × Nat) := [(0, .iload_n 0, 1), (1, .bipush 97, 2), (3, .bipush 122, 2), (5, .invokestatic 170, 3), (8, .ifCond .ne 31, 3), (11, .iload_n 0, 1), (12, .bipush 65, 2), (14, .bipush 90, 2), (16, .invokestatic 170, 3), (19, .ifCond .ne 20, 3), (22, .iload_n 0, 1), (23, .bipush 48, 2), (25, .bipush 57, 2), (27, .invokestatic 170, 3), (30, .ifCond .ne 9, 3), (33, .iload_n 0, 1), (34, .bipush 95, 2), (36, .if_icmp .ne 7, 3), (39, .iconst 1, 1), (40, .goto 4, 3), (43, .iconst 0, 1), (44, .ireturn, 1)]
set_option maxRecDepth 100000 in
theorem dt_isWord : q_ck k_isWord t_isWord = true := by decide +kernel
def r_isWord_30 (m : Nat) (h0 : qH) (d : Nat) (x0 s0 : Int) (B : qB) (Q : qO → qB → Prop) : Prop := R32 s0 ∧ (¬ s0 = 0 → Q (.inl (some (iv 1))) B) ∧ (s0 = 0 → R32 x0 ∧ (¬ x0 = 95 → Q (.inl (some (iv 0))) B) ∧ (x0 = 95 → Q (.inl (some (iv 1))) B))
theorem r_isWord_30_ok {m : Nat} {h0 : qH} {d : Nat} {x0 s0 : Int} {B : qB} {Q : qO → qB → Prop} (hm : m + 100 < 1000000000) (w : r_isWord_30 m h0 d x0 s0 B Q) : qZ m h0 (d + 1) k_isWord 30 [some (iv x0)] [iv s0] B Q := by
  unfold r_isWord_30 at w
  obtain ⟨p1, w⟩ := w
  refine z_ifz (t := 39) (ck_at dt_isWord 14 rfl) rfl p1 ?_ ?_
  · intro q; have w := w.1 q
    refine z_op (ck_at dt_isWord 18 rfl) rfl (o_const _) ?_
    refine z_goto (t := 44) (ck_at dt_isWord 19 rfl) rfl ?_
    exact z_retZ (ck_at dt_isWord 21 rfl) rt_isWord (by decide) w
  · intro q; have w := w.2 q
    obtain ⟨p2, w⟩ := w
    refine z_ldk (ok := q_isI) (n := 0) (ck_at dt_isWord 15 rfl) rfl rfl (fun _ => rfl) rfl rfl ?_
    refine z_op (ck_at dt_isWord 16 rfl) rfl (o_bipush _ (by decide)) ?_
    refine z_icmp (t := 43) (ck_at dt_isWord 17 rfl) rfl p2 ⟨by decide, by decide⟩ ?_ ?_
    · intro q; have w := w.1 q
      refine z_op (ck_at dt_isWord 20 rfl) rfl (o_const _) ?_
      exact z_retZ (ck_at dt_isWord 21 rfl) rt_isWord (by decide) w
    · intro q; have w := w.2 q
      refine z_op (ck_at dt_isWord 18 rfl) rfl (o_const _) ?_
      refine z_goto (t := 44) (ck_at dt_isWord 19 rfl) rfl ?_
      exact z_retZ (ck_at dt_isWord 21 rfl) rt_isWord (by decide) w
def r_isWord_19 (m : Nat) (h0 : qH) (d : Nat) (x0 s0 : Int) (B : qB) (Q : qO → qB → Prop) : Prop := R32 s0 ∧ (¬ s0 = 0 → Q (.inl (some (iv 1))) B) ∧ (s0 = 0 → qZ m h0 d k_in 0 [some (iv x0), some (iv 48), some (iv 57)] [] B (fun o B' => ∃ v : Int, o = .inl (some (iv v)) ∧ r_isWord_30 m h0 d x0 v B' Q))
theorem r_isWord_19_ok {m : Nat} {h0 : qH} {d : Nat} {x0 s0 : Int} {B : qB} {Q : qO → qB → Prop} (hm : m + 100 < 1000000000) (w : r_isWord_19 m h0 d x0 s0 B Q) : qZ m h0 (d + 1) k_isWord 19 [some (iv x0)] [iv s0] B Q := by
  unfold r_isWord_19 at w
  obtain ⟨p1, w⟩ := w
  refine z_ifz (t := 39) (ck_at dt_isWord 9 rfl) rfl p1 ?_ ?_
  · intro q; have w := w.1 q
    refine z_op (ck_at dt_isWord 18 rfl) rfl (o_const _) ?_
    refine z_goto (t := 44) (ck_at dt_isWord 19 rfl) rfl ?_
    exact z_retZ (ck_at dt_isWord 21 rfl) rt_isWord (by decide) w
  · intro q; have w := w.2 q
    refine z_ldk (ok := q_isI) (n := 0) (ck_at dt_isWord 10 rfl) rfl rfl (fun _ => rfl) rfl rfl ?_
    refine z_op (ck_at dt_isWord 11 rfl) rfl (o_bipush _ (by decide)) ?_
    refine z_op (ck_at dt_isWord 12 rfl) rfl (o_bipush _ (by decide)) ?_
    refine z_stat (k' := k_in) (n := 0) (as := [iv x0, iv 48, iv 57]) (r := []) (ck_at dt_isWord 13 rfl) own_isWord (mm_at 2 rfl) (ms_at 0 rfl) vk_in rfl nl_in rfl rfl rfl rfl ?_
    exact w.mono (Nat.le_refl _) (fun o B' ⟨v, ho, w⟩ => ⟨some (iv v), ho, z_wk (r_isWord_30_ok hm w) ⟨rfl, trivial⟩⟩)
def r_isWord_8 (m : Nat) (h0 : qH) (d : Nat) (x0 s0 : Int) (B : qB) (Q : qO → qB → Prop) : Prop := R32 s0 ∧ (¬ s0 = 0 → Q (.inl (some (iv 1))) B) ∧ (s0 = 0 → qZ m h0 d k_in 0 [some (iv x0), some (iv 65), some (iv 90)] [] B (fun o B' => ∃ v : Int, o = .inl (some (iv v)) ∧ r_isWord_19 m h0 d x0 v B' Q))
theorem r_isWord_8_ok {m : Nat} {h0 : qH} {d : Nat} {x0 s0 : Int} {B : qB} {Q : qO → qB → Prop} (hm : m + 100 < 1000000000) (w : r_isWord_8 m h0 d x0 s0 B Q) : qZ m h0 (d + 1) k_isWord 8 [some (iv x0)] [iv s0] B Q := by
  unfold r_isWord_8 at w
  obtain ⟨p1, w⟩ := w
  refine z_ifz (t := 39) (ck_at dt_isWord 4 rfl) rfl p1 ?_ ?_
  · intro q; have w := w.1 q
    refine z_op (ck_at dt_isWord 18 rfl) rfl (o_const _) ?_
    refine z_goto (t := 44) (ck_at dt_isWord 19 rfl) rfl ?_
    exact z_retZ (ck_at dt_isWord 21 rfl) rt_isWord (by decide) w
  · intro q; have w := w.2 q
    refine z_ldk (ok := q_isI) (n := 0) (ck_at dt_isWord 5 rfl) rfl rfl (fun _ => rfl) rfl rfl ?_
    refine z_op (ck_at dt_isWord 6 rfl) rfl (o_bipush _ (by decide)) ?_
    refine z_op (ck_at dt_isWord 7 rfl) rfl (o_bipush _ (by decide)) ?_
    refine z_stat (k' := k_in) (n := 0) (as := [iv x0, iv 65, iv 90]) (r := []) (ck_at dt_isWord 8 rfl) own_isWord (mm_at 2 rfl) (ms_at 0 rfl) vk_in rfl nl_in rfl rfl rfl rfl ?_
    exact w.mono (Nat.le_refl _) (fun o B' ⟨v, ho, w⟩ => ⟨some (iv v), ho, z_wk (r_isWord_19_ok hm w) ⟨rfl, trivial⟩⟩)
def r_isWord_0 (m : Nat) (h0 : qH) (d : Nat) (x0 : Int) (B : qB) (Q : qO → qB → Prop) : Prop := qZ m h0 d k_in 0 [some (iv x0), some (iv 97), some (iv 122)] [] B (fun o B' => ∃ v : Int, o = .inl (some (iv v)) ∧ r_isWord_8 m h0 d x0 v B' Q)
theorem r_isWord_0_ok {m : Nat} {h0 : qH} {d : Nat} {x0 : Int} {B : qB} {Q : qO → qB → Prop} (hm : m + 100 < 1000000000) (w : r_isWord_0 m h0 d x0 B Q) : qZ m h0 (d + 1) k_isWord 0 [some (iv x0)] [] B Q := by
  unfold r_isWord_0 at w
  refine z_ldk (ok := q_isI) (n := 0) (ck_at dt_isWord 0 rfl) rfl rfl (fun _ => rfl) rfl rfl ?_
  refine z_op (ck_at dt_isWord 1 rfl) rfl (o_bipush _ (by decide)) ?_
  refine z_op (ck_at dt_isWord 2 rfl) rfl (o_bipush _ (by decide)) ?_
  refine z_stat (k' := k_in) (n := 0) (as := [iv x0, iv 97, iv 122]) (r := []) (ck_at dt_isWord 3 rfl) own_isWord (mm_at 2 rfl) (ms_at 0 rfl) vk_in rfl nl_in rfl rfl rfl rfl ?_
  exact w.mono (Nat.le_refl _) (fun o B' ⟨v, ho, w⟩ => ⟨some (iv v), ho, z_wk (r_isWord_8_ok hm w) ⟨rfl, trivial⟩⟩)
/-! isKind(II)Z -/
def t_isKind : List (Nat × Instr × Nat) := [(0, .iload_n 0, 1), (1, .bipush 100, 2), (3, .if_icmp .ne 12, 3), (6, .iload_n 1, 1), (7, .bipush 48, 2), (9, .bipush 57, 2), (11, .invokestatic 170, 3), (14, .ireturn, 1), (15, .iload_n 0, 1), (16, .bipush 119, 2), (18, .if_icmp .ne 8, 3), (21, .iload_n 1, 1), (22, .invokestatic 189, 3), (25, .ireturn, 1), (26, .iload_n 0, 1), (27, .bipush 115, 2), (29, .if_icmp .ne 8, 3), (32, .iload_n 1, 1), (33, .invokestatic 193, 3), (36, .ireturn, 1), (37, .iload_n 0, 1), (38, .bipush 68, 2), (40, .if_icmp .ne 20, 3), (43, .iload_n 1, 1), (44, .bipush 48, 2), (46, .bipush 57, 2), (48, .invokestatic 170, 3), (51, .ifCond .ne 7, 3), (54, .iconst 1, 1), (55, .goto 4, 3), (58, .iconst 0, 1), (59, .ireturn, 1), (60, .iload_n 0, 1), (61, .bipush 87, 2), (63, .if_icmp .ne 18, 3), (66, .iload_n 1, 1), (67, .invokestatic 189, 3), (70, .ifCond .ne 7, 3), (73, .iconst 1, 1), (74, .goto 19, 3), (77, .iconst 0, 1), (78, .goto 15, 3), (81, .iload_n 1, 1), (82, .invokestatic 193, 3), (85, .ifCond .ne 7, 3), (88, .iconst 1, 1), (89, .goto 4, 3), (92, .iconst 0, 1), (93, .ireturn, 1)]
set_option maxRecDepth 100000 in
theorem dt_isKind : q_ck k_isKind t_isKind = true := by decide +kernel
def r_isKind_85 (m : Nat) (h0 : qH) (d : Nat) (s0 : Int) (B : qB) (Q : qO → qB → Prop) : Prop := R32 s0 ∧ (¬ s0 = 0 → Q (.inl (some (iv 0))) B) ∧ (s0 = 0 → Q (.inl (some (iv 1))) B)
theorem r_isKind_85_ok {m : Nat} {h0 : qH} {d : Nat} {s0 : Int} {B : qB} {Q : qO → qB → Prop} (hm : m + 100 < 1000000000) (w : r_isKind_85 m h0 d s0 B Q) : qZ m h0 (d + 1) k_isKind 85 [none, none] [iv s0] B Q := by
  unfold r_isKind_85 at w
  obtain ⟨p1, w⟩ := w
  refine z_ifz (t := 92) (ck_at dt_isKind 44 rfl) rfl p1 ?_ ?_
  · intro q; have w := w.1 q
    refine z_op (ck_at dt_isKind 47 rfl) rfl (o_const _) ?_
    exact z_retZ (ck_at dt_isKind 48 rfl) rt_isKind (by decide) w
  · intro q; have w := w.2 q
    refine z_op (ck_at dt_isKind 45 rfl) rfl (o_const _) ?_
    refine z_goto (t := 93) (ck_at dt_isKind 46 rfl) rfl ?_
    exact z_retZ (ck_at dt_isKind 48 rfl) rt_isKind (by decide) w
def r_isKind_70 (m : Nat) (h0 : qH) (d : Nat) (s0 : Int) (B : qB) (Q : qO → qB → Prop) : Prop := R32 s0 ∧ (¬ s0 = 0 → Q (.inl (some (iv 0))) B) ∧ (s0 = 0 → Q (.inl (some (iv 1))) B)
theorem r_isKind_70_ok {m : Nat} {h0 : qH} {d : Nat} {s0 : Int} {B : qB} {Q : qO → qB → Prop} (hm : m + 100 < 1000000000) (w : r_isKind_70 m h0 d s0 B Q) : qZ m h0 (d + 1) k_isKind 70 [none, none] [iv s0] B Q := by
  unfold r_isKind_70 at w
  obtain ⟨p1, w⟩ := w
  refine z_ifz (t := 77) (ck_at dt_isKind 37 rfl) rfl p1 ?_ ?_
  · intro q; have w := w.1 q
    refine z_op (ck_at dt_isKind 40 rfl) rfl (o_const _) ?_
    refine z_goto (t := 93) (ck_at dt_isKind 41 rfl) rfl ?_
    exact z_retZ (ck_at dt_isKind 48 rfl) rt_isKind (by decide) w
  · intro q; have w := w.2 q
    refine z_op (ck_at dt_isKind 38 rfl) rfl (o_const _) ?_
    refine z_goto (t := 93) (ck_at dt_isKind 39 rfl) rfl ?_
    exact z_retZ (ck_at dt_isKind 48 rfl) rt_isKind (by decide) w
def r_isKind_51 (m : Nat) (h0 : qH) (d : Nat) (s0 : Int) (B : qB) (Q : qO → qB → Prop) : Prop := R32 s0 ∧ (¬ s0 = 0 → Q (.inl (some (iv 0))) B) ∧ (s0 = 0 → Q (.inl (some (iv 1))) B)
theorem r_isKind_51_ok {m : Nat} {h0 : qH} {d : Nat} {s0 : Int} {B : qB} {Q : qO → qB → Prop} (hm : m + 100 < 1000000000) (w : r_isKind_51 m h0 d s0 B Q) : qZ m h0 (d + 1) k_isKind 51 [none, none] [iv s0] B Q := by
  unfold r_isKind_51 at w
  obtain ⟨p1, w⟩ := w
  refine z_ifz (t := 58) (ck_at dt_isKind 27 rfl) rfl p1 ?_ ?_
  · intro q; have w := w.1 q
    refine z_op (ck_at dt_isKind 30 rfl) rfl (o_const _) ?_
    exact z_retZ (ck_at dt_isKind 31 rfl) rt_isKind (by decide) w
  · intro q; have w := w.2 q
    refine z_op (ck_at dt_isKind 28 rfl) rfl (o_const _) ?_
    refine z_goto (t := 59) (ck_at dt_isKind 29 rfl) rfl ?_
    exact z_retZ (ck_at dt_isKind 31 rfl) rt_isKind (by decide) w
def r_isKind_36 (m : Nat) (h0 : qH) (d : Nat) (s0 : Int) (B : qB) (Q : qO → qB → Prop) : Prop := (s0 = 0 ∨ s0 = 1) ∧ Q (.inl (some (iv s0))) B
theorem r_isKind_36_ok {m : Nat} {h0 : qH} {d : Nat} {s0 : Int} {B : qB} {Q : qO → qB → Prop} (hm : m + 100 < 1000000000) (w : r_isKind_36 m h0 d s0 B Q) : qZ m h0 (d + 1) k_isKind 36 [none, none] [iv s0] B Q := by
  unfold r_isKind_36 at w
  obtain ⟨p1, w⟩ := w
  exact z_retZ (ck_at dt_isKind 19 rfl) rt_isKind p1 w
def r_isKind_25 (m : Nat) (h0 : qH) (d : Nat) (s0 : Int) (B : qB) (Q : qO → qB → Prop) : Prop := (s0 = 0 ∨ s0 = 1) ∧ Q (.inl (some (iv s0))) B
theorem r_isKind_25_ok {m : Nat} {h0 : qH} {d : Nat} {s0 : Int} {B : qB} {Q : qO → qB → Prop} (hm : m + 100 < 1000000000) (w : r_isKind_25 m h0 d s0 B Q) : qZ m h0 (d + 1) k_isKind 25 [none, none] [iv s0] B Q := by
  unfold r_isKind_25 at w
  obtain ⟨p1, w⟩ := w
  exact z_retZ (ck_at dt_isKind 13 rfl) rt_isKind p1 w
def r_isKind_14 (m : Nat) (h0 : qH) (d : Nat) (s0 : Int) (B : qB) (Q : qO → qB → Prop) : Prop := (s0 = 0 ∨ s0 = 1) ∧ Q (.inl (some (iv s0))) B
theorem r_isKind_14_ok {m : Nat} {h0 : qH} {d : Nat} {s0 : Int} {B : qB} {Q : qO → qB → Prop} (hm : m + 100 < 1000000000) (w : r_isKind_14 m h0 d s0 B Q) : qZ m h0 (d + 1) k_isKind 14 [none, none] [iv s0] B Q := by
  unfold r_isKind_14 at w
  obtain ⟨p1, w⟩ := w
  exact z_retZ (ck_at dt_isKind 7 rfl) rt_isKind p1 w
def r_isKind_0 (m : Nat) (h0 : qH) (d : Nat) (x0 x1 : Int) (B : qB) (Q : qO → qB → Prop) : Prop := R32 x0 ∧ (¬ x0 = 100 → (¬ x0 = 119 → (¬ x0 = 115 → (¬ x0 = 68 → (¬ x0 = 87 → qZ m h0 d k_isBlank 0 [some (iv x1)] [] B (fun o B' => ∃ v : Int, o = .inl (some (iv v)) ∧ r_isKind_85 m h0 d v B' Q)) ∧ (x0 = 87 → qZ m h0 d k_isWord 0 [some (iv x1)] [] B (fun o B' => ∃ v : Int, o = .inl (some (iv v)) ∧ r_isKind_70 m h0 d v B' Q))) ∧ (x0 = 68 → qZ m h0 d k_in 0 [some (iv x1), some (iv 48), some (iv 57)] [] B (fun o B' => ∃ v : Int, o = .inl (some (iv v)) ∧ r_isKind_51 m h0 d v B' Q))) ∧ (x0 = 115 → qZ m h0 d k_isBlank 0 [some (iv x1)] [] B (fun o B' => ∃ v : Int, o = .inl (some (iv v)) ∧ r_isKind_36 m h0 d v B' Q))) ∧ (x0 = 119 → qZ m h0 d k_isWord 0 [some (iv x1)] [] B (fun o B' => ∃ v : Int, o = .inl (some (iv v)) ∧ r_isKind_25 m h0 d v B' Q))) ∧ (x0 = 100 → qZ m h0 d k_in 0 [some (iv x1), some (iv 48), some (iv 57)] [] B (fun o B' => ∃ v : Int, o = .inl (some (iv v)) ∧ r_isKind_14 m h0 d v B' Q))
theorem r_isKind_0_ok {m : Nat} {h0 : qH} {d : Nat} {x0 x1 : Int} {B : qB} {Q : qO → qB → Prop} (hm : m + 100 < 1000000000) (w : r_isKind_0 m h0 d x0 x1 B Q) : qZ m h0 (d + 1) k_isKind 0 [some (iv x0), some (iv x1)] [] B Q := by
  unfold r_isKind_0 at w
  obtain ⟨p1, w⟩ := w
  refine z_ldk (ok := q_isI) (n := 0) (ck_at dt_isKind 0 rfl) rfl rfl (fun _ => rfl) rfl rfl ?_
  refine z_op (ck_at dt_isKind 1 rfl) rfl (o_bipush _ (by decide)) ?_
  refine z_icmp (t := 15) (ck_at dt_isKind 2 rfl) rfl p1 ⟨by decide, by decide⟩ ?_ ?_
  · intro q; have w := w.1 q
    refine z_ldk (ok := q_isI) (n := 0) (ck_at dt_isKind 8 rfl) rfl rfl (fun _ => rfl) rfl rfl ?_
    refine z_op (ck_at dt_isKind 9 rfl) rfl (o_bipush _ (by decide)) ?_
    refine z_icmp (t := 26) (ck_at dt_isKind 10 rfl) rfl p1 ⟨by decide, by decide⟩ ?_ ?_
    · intro q; have w := w.1 q
      refine z_ldk (ok := q_isI) (n := 0) (ck_at dt_isKind 14 rfl) rfl rfl (fun _ => rfl) rfl rfl ?_
      refine z_op (ck_at dt_isKind 15 rfl) rfl (o_bipush _ (by decide)) ?_
      refine z_icmp (t := 37) (ck_at dt_isKind 16 rfl) rfl p1 ⟨by decide, by decide⟩ ?_ ?_
      · intro q; have w := w.1 q
        refine z_ldk (ok := q_isI) (n := 0) (ck_at dt_isKind 20 rfl) rfl rfl (fun _ => rfl) rfl rfl ?_
        refine z_op (ck_at dt_isKind 21 rfl) rfl (o_bipush _ (by decide)) ?_
        refine z_icmp (t := 60) (ck_at dt_isKind 22 rfl) rfl p1 ⟨by decide, by decide⟩ ?_ ?_
        · intro q; have w := w.1 q
          refine z_ldk (ok := q_isI) (n := 0) (ck_at dt_isKind 32 rfl) rfl rfl (fun _ => rfl) rfl rfl ?_
          refine z_op (ck_at dt_isKind 33 rfl) rfl (o_bipush _ (by decide)) ?_
          refine z_icmp (t := 81) (ck_at dt_isKind 34 rfl) rfl p1 ⟨by decide, by decide⟩ ?_ ?_
          · intro q; have w := w.1 q
            refine z_ldk (ok := q_isI) (n := 1) (ck_at dt_isKind 42 rfl) rfl rfl (fun _ => rfl) rfl rfl ?_
            refine z_stat (k' := k_isBlank) (n := 0) (as := [iv x1]) (r := []) (ck_at dt_isKind 43 rfl) own_isKind (mm_at 25 rfl) (ms_at 4 rfl) vk_isBlank rfl nl_isBlank rfl rfl rfl rfl ?_
            exact w.mono (Nat.le_refl _) (fun o B' ⟨v, ho, w⟩ => ⟨some (iv v), ho, z_wk (r_isKind_85_ok hm w) trivial⟩)
          · intro q; have w := w.2 q
            refine z_ldk (ok := q_isI) (n := 1) (ck_at dt_isKind 35 rfl) rfl rfl (fun _ => rfl) rfl rfl ?_
            refine z_stat (k' := k_isWord) (n := 0) (as := [iv x1]) (r := []) (ck_at dt_isKind 36 rfl) own_isKind (mm_at 24 rfl) (ms_at 3 rfl) vk_isWord rfl nl_isWord rfl rfl rfl rfl ?_
            exact w.mono (Nat.le_refl _) (fun o B' ⟨v, ho, w⟩ => ⟨some (iv v), ho, z_wk (r_isKind_70_ok hm w) trivial⟩)
        · intro q; have w := w.2 q
          refine z_ldk (ok := q_isI) (n := 1) (ck_at dt_isKind 23 rfl) rfl rfl (fun _ => rfl) rfl rfl ?_
          refine z_op (ck_at dt_isKind 24 rfl) rfl (o_bipush _ (by decide)) ?_
          refine z_op (ck_at dt_isKind 25 rfl) rfl (o_bipush _ (by decide)) ?_
          refine z_stat (k' := k_in) (n := 0) (as := [iv x1, iv 48, iv 57]) (r := []) (ck_at dt_isKind 26 rfl) own_isKind (mm_at 2 rfl) (ms_at 0 rfl) vk_in rfl nl_in rfl rfl rfl rfl ?_
          exact w.mono (Nat.le_refl _) (fun o B' ⟨v, ho, w⟩ => ⟨some (iv v), ho, z_wk (r_isKind_51_ok hm w) trivial⟩)
      · intro q; have w := w.2 q
        refine z_ldk (ok := q_isI) (n := 1) (ck_at dt_isKind 17 rfl) rfl rfl (fun _ => rfl) rfl rfl ?_
        refine z_stat (k' := k_isBlank) (n := 0) (as := [iv x1]) (r := []) (ck_at dt_isKind 18 rfl) own_isKind (mm_at 25 rfl) (ms_at 4 rfl) vk_isBlank rfl nl_isBlank rfl rfl rfl rfl ?_
        exact w.mono (Nat.le_refl _) (fun o B' ⟨v, ho, w⟩ => ⟨some (iv v), ho, z_wk (r_isKind_36_ok hm w) trivial⟩)
    · intro q; have w := w.2 q
      refine z_ldk (ok := q_isI) (n := 1) (ck_at dt_isKind 11 rfl) rfl rfl (fun _ => rfl) rfl rfl ?_
      refine z_stat (k' := k_isWord) (n := 0) (as := [iv x1]) (r := []) (ck_at dt_isKind 12 rfl) own_isKind (mm_at 24 rfl) (ms_at 3 rfl) vk_isWord rfl nl_isWord rfl rfl rfl rfl ?_
      exact w.mono (Nat.le_refl _) (fun o B' ⟨v, ho, w⟩ => ⟨some (iv v), ho, z_wk (r_isKind_25_ok hm w) trivial⟩)
  · intro q; have w := w.2 q
    refine z_ldk (ok := q_isI) (n := 1) (ck_at dt_isKind 3 rfl) rfl rfl (fun _ => rfl) rfl rfl ?_
    refine z_op (ck_at dt_isKind 4 rfl) rfl (o_bipush _ (by decide)) ?_
    refine z_op (ck_at dt_isKind 5 rfl) rfl (o_bipush _ (by decide)) ?_
    refine z_stat (k' := k_in) (n := 0) (as := [iv x1, iv 48, iv 57]) (r := []) (ck_at dt_isKind 6 rfl) own_isKind (mm_at 2 rfl) (ms_at 0 rfl) vk_in rfl nl_in rfl rfl rfl rfl ?_
    exact w.mono (Nat.le_refl _) (fun o B' ⟨v, ho, w⟩ => ⟨some (iv v), ho, z_wk (r_isKind_14_ok hm w) trivial⟩)
/-! isLetterOfKind(I)Z -/
def t_isLetterOfKind : List (Nat × Instr × Nat) := [(0, .iload_n 0, 1), (1, .bipush 100, 2), (3, .if_icmp .eq 33, 3), (6, .iload_n 0, 1), (7, .bipush 119, 2), (9, .if_icmp .eq 27, 3), (12, .iload_n 0, 1), (13, .bipush 115, 2), (15, .if_icmp .eq 21, 3), (18, .iload_n 0, 1), (19, .bipush 68, 2), (21, .if_icmp .eq 15, 3), (24, .iload_n 0, 1), (25, .bipush 87, 2), (27, .if_icmp .eq 9, 3), (30, .iload_n 0, 1), (31, .bipush 83, 2), (33, .if_icmp .ne 7, 3), (36, .iconst 1, 1), (37, .goto 4, 3), (40, .iconst 0, 1), (41, .ireturn, 1)]
set_option maxRecDepth 100000 in
theorem dt_isLetterOfKind : q_ck k_isLetterOfKind t_isLetterOfKind = true := by decide +kernel
def r_isLetterOfKind_0 (m : Nat) (h0 : qH) (d : Nat) (x0 : Int) (B : qB) (Q : qO → qB → Prop) : Prop := R32 x0 ∧ (x0 = 100 → Q (.inl (some (iv 1))) B) ∧ (¬ x0 = 100 → (x0 = 119 → Q (.inl (some (iv 1))) B) ∧ (¬ x0 = 119 → (x0 = 115 → Q (.inl (some (iv 1))) B) ∧ (¬ x0 = 115 → (x0 = 68 → Q (.inl (some (iv 1))) B) ∧ (¬ x0 = 68 → (x0 = 87 → Q (.inl (some (iv 1))) B) ∧ (¬ x0 = 87 → (¬ x0 = 83 → Q (.inl (some (iv 0))) B) ∧ (x0 = 83 → Q (.inl (some (iv 1))) B))))))
theorem r_isLetterOfKind_0_ok {m : Nat} {h0 : qH} {d : Nat} {x0 : Int} {B : qB} {Q : qO → qB → Prop} (hm : m + 100 < 1000000000) (w : r_isLetterOfKind_0 m h0 d x0 B Q) : qZ m h0 (d + 1) k_isLetterOfKind 0 [some (iv x0)] [] B Q := by
  unfold r_isLetterOfKind_0 at w
  obtain ⟨p1, w⟩ := w
  refine z_ldk (ok := q_isI) (n := 0) (ck_at dt_isLetterOfKind 0 rfl) rfl rfl (fun _ => rfl) rfl rfl ?_
  refine z_op (ck_at dt_isLetterOfKind 1 rfl) rfl (o_bipush _ (by decide)) ?_
  refine z_icmp (t := 36) (ck_at dt_isLetterOfKind 2 rfl) rfl p1 ⟨by decide, by decide⟩ ?_ ?_
  · intro q; have w := w.1 q
    refine z_op (ck_at dt_isLetterOfKind 18 rfl) rfl (o_const _) ?_
    refine z_goto (t := 41) (ck_at dt_isLetterOfKind 19 rfl) rfl ?_
    exact z_retZ (ck_at dt_isLetterOfKind 21 rfl) rt_isLetterOfKind (by decide) w
  · intro q; have w := w.2 q
    refine z_ldk (ok := q_isI) (n := 0) (ck_at dt_isLetterOfKind 3 rfl) rfl rfl (fun _ => rfl) rfl rfl ?_
    refine z_op (ck_at dt_isLetterOfKind 4 rfl) rfl (o_bipush _ (by decide)) ?_
    refine z_icmp (t := 36) (ck_at dt_isLetterOfKind 5 rfl) rfl p1 ⟨by decide, by decide⟩ ?_ ?_
    · intro q; have w := w.1 q
      refine z_op (ck_at dt_isLetterOfKind 18 rfl) rfl (o_const _) ?_
      refine z_goto (t := 41) (ck_at dt_isLetterOfKind 19 rfl) rfl ?_
      exact z_retZ (ck_at dt_isLetterOfKind 21 rfl) rt_isLetterOfKind (by decide) w
    · intro q; have w := w.2 q
      refine z_ldk (ok := q_isI) (n := 0) (ck_at dt_isLetterOfKind 6 rfl) rfl rfl (fun _ => rfl) rfl rfl ?_
      refine z_op (ck_at dt_isLetterOfKind 7 rfl) rfl (o_bipush _ (by decide)) ?_
      refine z_icmp (t := 36) (ck_at dt_isLetterOfKind 8 rfl) rfl p1 ⟨by decide, by decide⟩ ?_ ?_
      · intro q; have w := w.1 q
        refine z_op (ck_at dt_isLetterOfKind 18 rfl) rfl (o_const _) ?_
        refine z_goto (t := 41) (ck_at dt_isLetterOfKind 19 rfl) rfl ?_
        exact z_retZ (ck_at dt_isLetterOfKind 21 rfl) rt_isLetterOfKind (by decide) w
      · intro q; have w := w.2 q
        refine z_ldk (ok := q_isI) (n := 0) (ck_at dt_isLetterOfKind 9 rfl) rfl rfl (fun _ => rfl) rfl rfl ?_
        refine z_op (ck_at dt_isLetterOfKind 10 rfl) rfl (o_bipush _ (by decide)) ?_
        refine z_icmp (t := 36) (ck_at dt_isLetterOfKind 11 rfl) rfl p1 ⟨by decide, by decide⟩ ?_ ?_
        · intro q; have w := w.1 q
          refine z_op (ck_at dt_isLetterOfKind 18 rfl) rfl (o_const _) ?_
          refine z_goto (t := 41) (ck_at dt_isLetterOfKind 19 rfl) rfl ?_
          exact z_retZ (ck_at dt_isLetterOfKind 21 rfl) rt_isLetterOfKind (by decide) w
        · intro q; have w := w.2 q
          refine z_ldk (ok := q_isI) (n := 0) (ck_at dt_isLetterOfKind 12 rfl) rfl rfl (fun _ => rfl) rfl rfl ?_
          refine z_op (ck_at dt_isLetterOfKind 13 rfl) rfl (o_bipush _ (by decide)) ?_
          refine z_icmp (t := 36) (ck_at dt_isLetterOfKind 14 rfl) rfl p1 ⟨by decide, by decide⟩ ?_ ?_
          · intro q; have w := w.1 q
            refine z_op (ck_at dt_isLetterOfKind 18 rfl) rfl (o_const _) ?_
            refine z_goto (t := 41) (ck_at dt_isLetterOfKind 19 rfl) rfl ?_
            exact z_retZ (ck_at dt_isLetterOfKind 21 rfl) rt_isLetterOfKind (by decide) w
          · intro q; have w := w.2 q
            refine z_ldk (ok := q_isI) (n := 0) (ck_at dt_isLetterOfKind 15 rfl) rfl rfl (fun _ => rfl) rfl rfl ?_
            refine z_op (ck_at dt_isLetterOfKind 16 rfl) rfl (o_bipush _ (by decide)) ?_
            refine z_icmp (t := 40) (ck_at dt_isLetterOfKind 17 rfl) rfl p1 ⟨by decide, by decide⟩ ?_ ?_
            · intro q; have w := w.1 q
              refine z_op (ck_at dt_isLetterOfKind 20 rfl) rfl (o_const _) ?_
              exact z_retZ (ck_at dt_isLetterOfKind 21 rfl) rt_isLetterOfKind (by decide) w
            · intro q; have w := w.2 q
              refine z_op (ck_at dt_isLetterOfKind 18 rfl) rfl (o_const _) ?_
              refine z_goto (t := 41) (ck_at dt_isLetterOfKind 19 rfl) rfl ?_
              exact z_retZ (ck_at dt_isLetterOfKind 21 rfl) rt_isLetterOfKind (by decide) w
/-! both(IIII)I -/
def t_both : List (Nat × Instr × Nat) := [(0, .aload_n 0, 1), (1, .getfield 71, 3), (4, .iload_n 2, 1), (5, .iaload, 1), (6, .aload_n 0, 1), (7, .getfield 71, 3), (10, .iload_n 3, 1), (11, .iaload, 1), (12, .iadd, 1), (13, .iload 4, 2), (15, .iadd, 1), (16, .istore 5, 2), (18, .aload_n 0, 1), (19, .getfield 74, 3), (22, .iload_n 2, 1), (23, .baload, 1), (24, .ifCond .ne 12, 3), (27, .aload_n 0, 1), (28, .getfield 74, 3), (31, .iload_n 3, 1), (32, .baload, 1), (33, .ifCond .eq 7, 3), (36, .iconst 1, 1), (37, .goto 4, 3), (40, .iconst 0, 1), (41, .istore 6, 2), (43, .aload_n 0, 1), (44, .iload_n 1, 1), (45, .iload_n 2, 1), (46, .iload_n 3, 1), (47, .invokevirtual 196, 3), (50, .istore 7, 2), (52, .aload_n 0, 1), (53, .getfield 71, 3), (56, .iload 7, 2), (58, .iload 5, 2), (60, .iastore, 1), (61, .aload_n 0, 1), (62, .getfield 74, 3), (65, .iload 7, 2), (67, .iload 6, 2), (69, .bastore, 1), (70, .iload 7, 2), (72, .ireturn, 1)]
set_option maxRecDepth 100000 in
theorem dt_both : q_ck k_both t_both = true := by decide +kernel
def r_both_50 (m : Nat) (h0 : qH) (d : Nat) (x5 x6 s0 : Int) (B : qB) (Q : qO → qB → Prop) : Prop := 0 ≤ s0 ∧ s0 < 3000 ∧ (x6 = 0 ∨ x6 = 1) ∧ Q (.inl (some (iv s0))) (u2 (u2 B 24 s0 x5) 25 s0 x6)
theorem r_both_50_ok {m : Nat} {h0 : qH} {d : Nat} {x5 x6 s0 : Int} {B : qB} {Q : qO → qB → Prop} (hm : m + 100 < 1000000000) (w : r_both_50 m h0 d x5 x6 s0 B Q) : qZ m h0 (d + 1) k_both 50 [some (.ref m), none, none, none, none, some (iv x5), some (iv x6), none] [iv s0] B Q := by
  unfold r_both_50 at w
  obtain ⟨p1, p2, p3, w⟩ := w
  refine z_st1 (ok := q_isI) (n := 7) (L' := [some (.ref m), none, none, none, none, some (iv x5), some (iv x6), some (iv s0)]) (ck_at dt_both 31 rfl) rfl (fun _ => rfl) (fun _ _ => rfl) rfl nl_both (by decide) rfl rfl ?_
  refine z_ldk (ok := q_isA) (n := 0) (ck_at dt_both 32 rfl) rfl rfl (fun _ => rfl) rfl rfl ?_
  refine z_getR (j := 24) (a := 19) (ck_at dt_both 33 rfl) own_both (mf_at 20 rfl) (by decide) rfl rfl ?_
  refine z_ldk (ok := q_isI) (n := 7) (ck_at dt_both 34 rfl) rfl rfl (fun _ => rfl) rfl rfl ?_
  refine z_ldk (ok := q_isI) (n := 5) (ck_at dt_both 35 rfl) rfl rfl (fun _ => rfl) rfl rfl ?_
  refine z_iast (j := 24) (n := 3000) hm (ck_at dt_both 36 rfl) rfl rfl rfl p1 p2 ?_
  refine z_ldk (ok := q_isA) (n := 0) (ck_at dt_both 37 rfl) rfl rfl (fun _ => rfl) rfl rfl ?_
  refine z_getR (j := 25) (a := 20) (ck_at dt_both 38 rfl) own_both (mf_at 21 rfl) (by decide) rfl rfl ?_
  refine z_ldk (ok := q_isI) (n := 7) (ck_at dt_both 39 rfl) rfl rfl (fun _ => rfl) rfl rfl ?_
  refine z_ldk (ok := q_isI) (n := 6) (ck_at dt_both 40 rfl) rfl rfl (fun _ => rfl) rfl rfl ?_
  refine z_bast (j := 25) (n := 3000) hm (ck_at dt_both 41 rfl) rfl rfl rfl p1 p2 p3 ?_
  refine z_ldk (ok := q_isI) (n := 7) (ck_at dt_both 42 rfl) rfl rfl (fun _ => rfl) rfl rfl ?_
  exact z_retI (ck_at dt_both 43 rfl) rt_both w
def r_both_41 (m : Nat) (h0 : qH) (d : Nat) (x1 x2 x3 x5 s0 : Int) (B : qB) (Q : qO → qB → Prop) : Prop := qZ m h0 d k_newNode 0 [some (.ref m), some (iv x1), some (iv x2), some (iv x3)] [] B (fun o B' => ∃ v : Int, o = .inl (some (iv v)) ∧ r_both_50 m h0 d x5 s0 v B' Q)
theorem r_both_41_ok {m : Nat} {h0 : qH} {d : Nat} {x1 x2 x3 x5 s0 : Int} {B : qB} {Q : qO → qB → Prop} (hm : m + 100 < 1000000000) (w : r_both_41 m h0 d x1 x2 x3 x5 s0 B Q) : qZ m h0 (d + 1) k_both 41 [some (.ref m), some (iv x1), some (iv x2), some (iv x3), none, some (iv x5), none, none] [iv s0] B Q := by
  unfold r_both_41 at w
  refine z_st1 (ok := q_isI) (n := 6) (L' := [some (.ref m), some (iv x1), some (iv x2), some (iv x3), none, some (iv x5), some (iv s0), none]) (ck_at dt_both 25 rfl) rfl (fun _ => rfl) (fun _ _ => rfl) rfl nl_both (by decide) rfl rfl ?_
  refine z_ldk (ok := q_isA) (n := 0) (ck_at dt_both 26 rfl) rfl rfl (fun _ => rfl) rfl rfl ?_
  refine z_ldk (ok := q_isI) (n := 1) (ck_at dt_both 27 rfl) rfl rfl (fun _ => rfl) rfl rfl ?_
  refine z_ldk (ok := q_isI) (n := 2) (ck_at dt_both 28 rfl) rfl rfl (fun _ => rfl) rfl rfl ?_
  refine z_ldk (ok := q_isI) (n := 3) (ck_at dt_both 29 rfl) rfl rfl (fun _ => rfl) rfl rfl ?_
  refine z_virt (k' := k_newNode) (n := 0) (as := [iv x1, iv x2, iv x3]) (r := []) (ck_at dt_both 30 rfl) own_both (mm_at 8 rfl) vk_newNode rfl nl_newNode rfl rfl rfl rfl ?_
  exact w.mono (Nat.le_refl _) (fun o B' ⟨v, ho, w⟩ => ⟨some (iv v), ho, z_wk (r_both_50_ok hm w) ⟨rfl, ⟨rfl, ⟨rfl, trivial⟩⟩⟩⟩)
def r_both_36 (m : Nat) (h0 : qH) (d : Nat) (x1 x2 x3 x5 : Int) (B : qB) (Q : qO → qB → Prop) : Prop := r_both_41 m h0 d x1 x2 x3 x5 1 B Q
theorem r_both_36_ok {m : Nat} {h0 : qH} {d : Nat} {x1 x2 x3 x5 : Int} {B : qB} {Q : qO → qB → Prop} (hm : m + 100 < 1000000000) (w : r_both_36 m h0 d x1 x2 x3 x5 B Q) : qZ m h0 (d + 1) k_both 36 [some (.ref m), some (iv x1), some (iv x2), some (iv x3), none, some (iv x5), none, none] [] B Q := by
  unfold r_both_36 at w
  refine z_op (ck_at dt_both 22 rfl) rfl (o_const _) ?_
  refine z_goto (t := 41) (ck_at dt_both 23 rfl) rfl ?_
  exact z_wk (r_both_41_ok hm w) ⟨rfl, ⟨rfl, ⟨rfl, ⟨rfl, ⟨rfl, trivial⟩⟩⟩⟩⟩
def r_both_0 (m : Nat) (h0 : qH) (d : Nat) (x1 x2 x3 x4 : Int) (B : qB) (Q : qO → qB → Prop) : Prop := 0 ≤ x2 ∧ x2 < 3000 ∧ 0 ≤ x3 ∧ x3 < 3000 ∧ R32 (B 25 x2) ∧ (¬ B 25 x2 = 0 → r_both_36 m h0 d x1 x2 x3 (((B 24 x2) + (B 24 x3)) + x4) B Q) ∧ (B 25 x2 = 0 → R32 (B 25 x3) ∧ (B 25 x3 = 0 → r_both_41 m h0 d x1 x2 x3 (((B 24 x2) + (B 24 x3)) + x4) 0 B Q) ∧ (¬ B 25 x3 = 0 → r_both_36 m h0 d x1 x2 x3 (((B 24 x2) + (B 24 x3)) + x4) B Q))
theorem r_both_0_ok {m : Nat} {h0 : qH} {d : Nat} {x1 x2 x3 x4 : Int} {B : qB} {Q : qO → qB → Prop} (hm : m + 100 < 1000000000) (w : r_both_0 m h0 d x1 x2 x3 x4 B Q) : qZ m h0 (d + 1) k_both 0 [some (.ref m), some (iv x1), some (iv x2), some (iv x3), some (iv x4), none, none, none] [] B Q := by
  unfold r_both_0 at w
  obtain ⟨p1, p2, p3, p4, p5, w⟩ := w
  refine z_ldk (ok := q_isA) (n := 0) (ck_at dt_both 0 rfl) rfl rfl (fun _ => rfl) rfl rfl ?_
  refine z_getR (j := 24) (a := 19) (ck_at dt_both 1 rfl) own_both (mf_at 20 rfl) (by decide) rfl rfl ?_
  refine z_ldk (ok := q_isI) (n := 2) (ck_at dt_both 2 rfl) rfl rfl (fun _ => rfl) rfl rfl ?_
  refine z_iald (j := 24) (n := 3000) (ck_at dt_both 3 rfl) rfl rfl rfl p1 p2 ?_
  refine z_ldk (ok := q_isA) (n := 0) (ck_at dt_both 4 rfl) rfl rfl (fun _ => rfl) rfl rfl ?_
  refine z_getR (j := 24) (a := 19) (ck_at dt_both 5 rfl) own_both (mf_at 20 rfl) (by decide) rfl rfl ?_
  refine z_ldk (ok := q_isI) (n := 3) (ck_at dt_both 6 rfl) rfl rfl (fun _ => rfl) rfl rfl ?_
  refine z_iald (j := 24) (n := 3000) (ck_at dt_both 7 rfl) rfl rfl rfl p3 p4 ?_
  refine z_op (ck_at dt_both 8 rfl) rfl o_iadd ?_
  refine z_ldk (ok := q_isI) (n := 4) (ck_at dt_both 9 rfl) rfl rfl (fun _ => rfl) rfl rfl ?_
  refine z_op (ck_at dt_both 10 rfl) rfl o_iadd ?_
  refine z_st1 (ok := q_isI) (n := 5) (L' := [some (.ref m), some (iv x1), some (iv x2), some (iv x3), some (iv x4), some (iv (((B 24 x2) + (B 24 x3)) + x4)), none, none]) (ck_at dt_both 11 rfl) rfl (fun _ => rfl) (fun _ _ => rfl) rfl nl_both (by decide) rfl rfl ?_
  refine z_ldk (ok := q_isA) (n := 0) (ck_at dt_both 12 rfl) rfl rfl (fun _ => rfl) rfl rfl ?_
  refine z_getR (j := 25) (a := 20) (ck_at dt_both 13 rfl) own_both (mf_at 21 rfl) (by decide) rfl rfl ?_
  refine z_ldk (ok := q_isI) (n := 2) (ck_at dt_both 14 rfl) rfl rfl (fun _ => rfl) rfl rfl ?_
  refine z_bald (j := 25) (n := 3000) (ck_at dt_both 15 rfl) rfl rfl rfl p1 p2 ?_
  refine z_ifz (t := 36) (ck_at dt_both 16 rfl) rfl p5 ?_ ?_
  · intro q; have w := w.1 q
    exact z_wk (r_both_36_ok hm w) ⟨rfl, ⟨rfl, ⟨rfl, ⟨rfl, ⟨rfl, trivial⟩⟩⟩⟩⟩
  · intro q; have w := w.2 q
    obtain ⟨p6, w⟩ := w
    refine z_ldk (ok := q_isA) (n := 0) (ck_at dt_both 17 rfl) rfl rfl (fun _ => rfl) rfl rfl ?_
    refine z_getR (j := 25) (a := 20) (ck_at dt_both 18 rfl) own_both (mf_at 21 rfl) (by decide) rfl rfl ?_
    refine z_ldk (ok := q_isI) (n := 3) (ck_at dt_both 19 rfl) rfl rfl (fun _ => rfl) rfl rfl ?_
    refine z_bald (j := 25) (n := 3000) (ck_at dt_both 20 rfl) rfl rfl rfl p3 p4 ?_
    refine z_ifz (t := 40) (ck_at dt_both 21 rfl) rfl p6 ?_ ?_
    · intro q; have w := w.1 q
      refine z_op (ck_at dt_both 24 rfl) rfl (o_const _) ?_
      exact z_wk (r_both_41_ok hm w) ⟨rfl, ⟨rfl, ⟨rfl, ⟨rfl, ⟨rfl, trivial⟩⟩⟩⟩⟩
    · intro q; have w := w.2 q
      exact z_wk (r_both_36_ok hm w) ⟨rfl, ⟨rfl, ⟨rfl, ⟨rfl, ⟨rfl, trivial⟩⟩⟩⟩⟩
/-! opens(III)V -/
def t_opens : List (Nat × Instr × Nat) := [(0, .aload_n 0, 1), (1, .getfield 85, 3), (4, .aload_n 0, 1), (5, .getfield 200, 3), (8, .iload_n 1, 1), (9, .iastore, 1), (10, .aload_n 0, 1), (11, .getfield 88, 3), (14, .aload_n 0, 1), (15, .getfield 200, 3), (18, .iload_n 2, 1), (19, .iastore, 1), (20, .aload_n 0, 1), (21, .getfield 91, 3), (24, .aload_n 0, 1), (25, .getfield 200, 3), (28, .iconst (-1), 1), (29, .iastore, 1), (30, .aload_n 0, 1), (31, .getfield 94, 3), (34, .aload_n 0, 1), (35, .getfield 200, 3), (38, .aload_n 0, 1), (39, .bipush 11, 2), (41, .iconst 0, 1), (42, .iconst 0, 1), (43, .invokevirtual 196, 3), (46, .iastore, 1), (47, .aload_n 0, 1), (48, .getfield 97, 3), (51, .aload_n 0, 1), (52, .getfield 200, 3), (55, .iload_n 3, 1), (56, .iastore, 1), (57, .aload_n 0, 1), (58, .dup, 1), (59, .getfield 200, 3), (62, .iconst 1, 1), (63, .iadd, 1), (64, .putfield 200, 3), (67, .return_, 1)]
set_option maxRecDepth 100000 in
theorem dt_opens : q_ck k_opens t_opens = true := by decide +kernel
def r_opens_46 (m : Nat) (h0 : qH) (d : Nat) (x3 s1 s2 : Int) (B : qB) (Q : qO → qB → Prop) : Prop := 0 ≤ s1 ∧ s1 < 12 ∧ 0 ≤ B 41 0 ∧ B 41 0 < 12 ∧ Q (.inl none) (u2 (u2 (u2 B 39 s1 s2) 40 (B 41 0) x3) 41 0 ((B 41 0) + 1))
theorem r_opens_46_ok {m : Nat} {h0 : qH} {d : Nat} {x3 s1 s2 : Int} {B : qB} {Q : qO → qB → Prop} (hm : m + 100 < 1000000000) (w : r_opens_46 m h0 d x3 s1 s2 B Q) : qZ m h0 (d + 1) k_opens 46 [some (.ref m), none, none, some (iv x3)] [iv s2, iv s1, .ref (m + 1 + 26)] B Q := by
  unfold r_opens_46 at w
  obtain ⟨p1, p2, p3, p4, w⟩ := w
  refine z_iast (j := 39) (n := 12) hm (ck_at dt_opens 27 rfl) rfl rfl rfl p1 p2 ?_
  refine z_ldk (ok := q_isA) (n := 0) (ck_at dt_opens 28 rfl) rfl rfl (fun _ => rfl) rfl rfl ?_
  refine z_getR (j := 40) (a := 27) (ck_at dt_opens 29 rfl) own_opens (mf_at 28 rfl) (by decide) rfl rfl ?_
  refine z_ldk (ok := q_isA) (n := 0) (ck_at dt_opens 30 rfl) rfl rfl (fun _ => rfl) rfl rfl ?_
  refine z_getI (j := 41) (ck_at dt_opens 31 rfl) own_opens (mf_at 58 rfl) (by decide) rfl ?_
  refine z_ldk (ok := q_isI) (n := 3) (ck_at dt_opens 32 rfl) rfl rfl (fun _ => rfl) rfl rfl ?_
  refine z_iast (j := 40) (n := 12) hm (ck_at dt_opens 33 rfl) rfl rfl rfl p3 p4 ?_
  refine z_ldk (ok := q_isA) (n := 0) (ck_at dt_opens 34 rfl) rfl rfl (fun _ => rfl) rfl rfl ?_
  refine z_op (ck_at dt_opens 35 rfl) rfl rfl ?_
  refine z_getI (j := 41) (ck_at dt_opens 36 rfl) own_opens (mf_at 58 rfl) (by decide) rfl ?_
  refine z_op (ck_at dt_opens 37 rfl) rfl (o_const _) ?_
  refine z_op (ck_at dt_opens 38 rfl) rfl o_iadd ?_
  refine z_putI (j := 41) hm (ck_at dt_opens 39 rfl) own_opens (mf_at 58 rfl) (by decide) rfl rfl rfl ?_
  exact z_ret0 (ck_at dt_opens 40 rfl) rt_opens w
def r_opens_0 (m : Nat) (h0 : qH) (d : Nat) (x1 x2 x3 : Int) (B : qB) (Q : qO → qB → Prop) : Prop := 0 ≤ B 41 0 ∧ B 41 0 < 12 ∧ qZ m h0 d k_newNode 0 [some (.ref m), some (iv 11), some (iv 0), some (iv 0)] [] (u2 (u2 (u2 B 36 (B 41 0) x1) 37 (B 41 0) x2) 38 (B 41 0) (-1)) (fun o B' => ∃ v : Int, o = .inl (some (iv v)) ∧ r_opens_46 m h0 d x3 (B 41 0) v B' Q)
theorem r_opens_0_ok {m : Nat} {h0 : qH} {d : Nat} {x1 x2 x3 : Int} {B : qB} {Q : qO → qB → Prop} (hm : m + 100 < 1000000000) (w : r_opens_0 m h0 d x1 x2 x3 B Q) : qZ m h0 (d + 1) k_opens 0 [some (.ref m), some (iv x1), some (iv x2), some (iv x3)] [] B Q := by
  unfold r_opens_0 at w
  obtain ⟨p1, p2, w⟩ := w
  refine z_ldk (ok := q_isA) (n := 0) (ck_at dt_opens 0 rfl) rfl rfl (fun _ => rfl) rfl rfl ?_
  refine z_getR (j := 36) (a := 23) (ck_at dt_opens 1 rfl) own_opens (mf_at 24 rfl) (by decide) rfl rfl ?_
  refine z_ldk (ok := q_isA) (n := 0) (ck_at dt_opens 2 rfl) rfl rfl (fun _ => rfl) rfl rfl ?_
  refine z_getI (j := 41) (ck_at dt_opens 3 rfl) own_opens (mf_at 58 rfl) (by decide) rfl ?_
  refine z_ldk (ok := q_isI) (n := 1) (ck_at dt_opens 4 rfl) rfl rfl (fun _ => rfl) rfl rfl ?_
  refine z_iast (j := 36) (n := 12) hm (ck_at dt_opens 5 rfl) rfl rfl rfl p1 p2 ?_
  refine z_ldk (ok := q_isA) (n := 0) (ck_at dt_opens 6 rfl) rfl rfl (fun _ => rfl) rfl rfl ?_
  refine z_getR (j := 37) (a := 24) (ck_at dt_opens 7 rfl) own_opens (mf_at 25 rfl) (by decide) rfl rfl ?_
  refine z_ldk (ok := q_isA) (n := 0) (ck_at dt_opens 8 rfl) rfl rfl (fun _ => rfl) rfl rfl ?_
  refine z_getI (j := 41) (ck_at dt_opens 9 rfl) own_opens (mf_at 58 rfl) (by decide) rfl ?_
  refine z_ldk (ok := q_isI) (n := 2) (ck_at dt_opens 10 rfl) rfl rfl (fun _ => rfl) rfl rfl ?_
  refine z_iast (j := 37) (n := 12) hm (ck_at dt_opens 11 rfl) rfl rfl rfl p1 p2 ?_
  refine z_ldk (ok := q_isA) (n := 0) (ck_at dt_opens 12 rfl) rfl rfl (fun _ => rfl) rfl rfl ?_
  refine z_getR (j := 38) (a := 25) (ck_at dt_opens 13 rfl) own_opens (mf_at 26 rfl) (by decide) rfl rfl ?_
  refine z_ldk (ok := q_isA) (n := 0) (ck_at dt_opens 14 rfl) rfl rfl (fun _ => rfl) rfl rfl ?_
  refine z_getI (j := 41) (ck_at dt_opens 15 rfl) own_opens (mf_at 58 rfl) (by decide) rfl ?_
  refine z_op (ck_at dt_opens 16 rfl) rfl (o_const _) ?_
  refine z_iast (j := 38) (n := 12) hm (ck_at dt_opens 17 rfl) rfl rfl rfl p1 p2 ?_
  refine z_ldk (ok := q_isA) (n := 0) (ck_at dt_opens 18 rfl) rfl rfl (fun _ => rfl) rfl rfl ?_
  refine z_getR (j := 39) (a := 26) (ck_at dt_opens 19 rfl) own_opens (mf_at 27 rfl) (by decide) rfl rfl ?_
  refine z_ldk (ok := q_isA) (n := 0) (ck_at dt_opens 20 rfl) rfl rfl (fun _ => rfl) rfl rfl ?_
  refine z_getI (j := 41) (ck_at dt_opens 21 rfl) own_opens (mf_at 58 rfl) (by decide) rfl ?_
  refine z_ldk (ok := q_isA) (n := 0) (ck_at dt_opens 22 rfl) rfl rfl (fun _ => rfl) rfl rfl ?_
  refine z_op (ck_at dt_opens 23 rfl) rfl (o_bipush _ (by decide)) ?_
  refine z_op (ck_at dt_opens 24 rfl) rfl (o_const _) ?_
  refine z_op (ck_at dt_opens 25 rfl) rfl (o_const _) ?_
  refine z_virt (k' := k_newNode) (n := 0) (as := [iv 11, iv 0, iv 0]) (r := [iv (B 41 0), .ref (m + 1 + 26)]) (ck_at dt_opens 26 rfl) own_opens (mm_at 8 rfl) vk_newNode rfl nl_newNode rfl rfl rfl rfl ?_
  exact w.mono (Nat.le_refl _) (fun o B' ⟨v, ho, w⟩ => ⟨some (iv v), ho, z_wk (r_opens_46_ok hm w) ⟨rfl, ⟨rfl, trivial⟩⟩⟩)
/-! closed()I -/
def t_closed : List (Nat × Instr × Nat) := [(0, .aload_n 0, 1), (1, .getfield 200, 3), (4, .iconst 1, 1), (5, .isub, 1), (6, .istore_n 1, 1), (7, .aload_n 0, 1), (8, .getfield 91, 3), (11, .iload_n 1, 1), (12, .iaload, 1), (13, .ifCond .ge 12, 3), (16, .aload_n 0, 1), (17, .getfield 94, 3), (20, .iload_n 1, 1), (21, .iaload, 1), (22, .goto 21, 3), (25, .aload_n 0, 1), (26, .iconst 2, 1), (27, .aload_n 0, 1), (28, .getfield 91, 3), (31, .iload_n 1, 1), (32, .iaload, 1), (33, .aload_n 0, 1), (34, .getfield 94, 3), (37, .iload_n 1, 1), (38, .iaload, 1), (39, .iconst 1, 1), (40, .invokevirtual 203, 3), (43, .ireturn, 1)]
set_option maxRecDepth 100000 in
theorem dt_closed : q_ck k_closed t_closed = true := by decide +kernel
def r_closed_43 (m : Nat) (h0 : qH) (d : Nat) (s0 : Int) (B : qB) (Q : qO → qB → Prop) : Prop := Q (.inl (some (iv s0))) B
theorem r_closed_43_ok {m : Nat} {h0 : qH} {d : Nat} {s0 : Int} {B : qB} {Q : qO → qB → Prop} (hm : m + 100 < 1000000000) (w : r_closed_43 m h0 d s0 B Q) : qZ m h0 (d + 1) k_closed 43 [none, none] [iv s0] B Q := by
  unfold r_closed_43 at w
  exact z_retI (ck_at dt_closed 27 rfl) rt_closed w
def r_closed_0 (m : Nat) (h0 : qH) (d : Nat) (B : qB) (Q : qO → qB → Prop) : Prop := 0 ≤ (B 41 0) - 1 ∧ (B 41 0) - 1 < 12 ∧ R32 (B 38 ((B 41 0) - 1)) ∧ (B 38 ((B 41 0) - 1) ≥ 0 → qZ m h0 d k_both 0 [some (.ref m), some (iv 2), some (iv (B 38 ((B 41 0) - 1))), some (iv (B 39 ((B 41 0) - 1))), some (iv 1), none, none, none] [] B (fun o B' => ∃ v : Int, o = .inl (some (iv v)) ∧ r_closed_43 m h0 d v B' Q)) ∧ (B 38 ((B 41 0) - 1) < 0 → r_closed_43 m h0 d (B 39 ((B 41 0) - 1)) B Q)
theorem r_closed_0_ok {m : Nat} {h0 : qH} {d : Nat} {B : qB} {Q : qO → qB → Prop} (hm : m + 100 < 1000000000) (w : r_closed_0 m h0 d B Q) : qZ m h0 (d + 1) k_closed 0 [some (.ref m), none] [] B Q := by
  unfold r_closed_0 at w
  obtain ⟨p1, p2, p3, w⟩ := w
  refine z_ldk (ok := q_isA) (n := 0) (ck_at dt_closed 0 rfl) rfl rfl (fun _ => rfl) rfl rfl ?_
  refine z_getI (j := 41) (ck_at dt_closed 1 rfl) own_closed (mf_at 58 rfl) (by decide) rfl ?_
  refine z_op (ck_at dt_closed 2 rfl) rfl (o_const _) ?_
  refine z_op (ck_at dt_closed 3 rfl) rfl o_isub ?_
  refine z_st1 (ok := q_isI) (n := 1) (L' := [some (.ref m), some (iv ((B 41 0) - 1))]) (ck_at dt_closed 4 rfl) rfl (fun _ => rfl) (fun _ _ => rfl) rfl nl_closed (by decide) rfl rfl ?_
  refine z_ldk (ok := q_isA) (n := 0) (ck_at dt_closed 5 rfl) rfl rfl (fun _ => rfl) rfl rfl ?_
  refine z_getR (j := 38) (a := 25) (ck_at dt_closed 6 rfl) own_closed (mf_at 26 rfl) (by decide) rfl rfl ?_
  refine z_ldk (ok := q_isI) (n := 1) (ck_at dt_closed 7 rfl) rfl rfl (fun _ => rfl) rfl rfl ?_
  refine z_iald (j := 38) (n := 12) (ck_at dt_closed 8 rfl) rfl rfl rfl p1 p2 ?_
  refine z_ifz (t := 25) (ck_at dt_closed 9 rfl) rfl p3 ?_ ?_
  · intro q; have w := w.1 q
    refine z_ldk (ok := q_isA) (n := 0) (ck_at dt_closed 15 rfl) rfl rfl (fun _ => rfl) rfl rfl ?_
    refine z_op (ck_at dt_closed 16 rfl) rfl (o_const _) ?_
    refine z_ldk (ok := q_isA) (n := 0) (ck_at dt_closed 17 rfl) rfl rfl (fun _ => rfl) rfl rfl ?_
    refine z_getR (j := 38) (a := 25) (ck_at dt_closed 18 rfl) own_closed (mf_at 26 rfl) (by decide) rfl rfl ?_
    refine z_ldk (ok := q_isI) (n := 1) (ck_at dt_closed 19 rfl) rfl rfl (fun _ => rfl) rfl rfl ?_
    refine z_iald (j := 38) (n := 12) (ck_at dt_closed 20 rfl) rfl rfl rfl p1 p2 ?_
    refine z_ldk (ok := q_isA) (n := 0) (ck_at dt_closed 21 rfl) rfl rfl (fun _ => rfl) rfl rfl ?_
    refine z_getR (j := 39) (a := 26) (ck_at dt_closed 22 rfl) own_closed (mf_at 27 rfl) (by decide) rfl rfl ?_
    refine z_ldk (ok := q_isI) (n := 1) (ck_at dt_closed 23 rfl) rfl rfl (fun _ => rfl) rfl rfl ?_
    refine z_iald (j := 39) (n := 12) (ck_at dt_closed 24 rfl) rfl rfl rfl p1 p2 ?_
    refine z_op (ck_at dt_closed 25 rfl) rfl (o_const _) ?_
    refine z_virt (k' := k_both) (n := 3) (as := [iv 2, iv (B 38 ((B 41 0) - 1)), iv (B 39 ((B 41 0) - 1)), iv 1]) (r := []) (ck_at dt_closed 26 rfl) own_closed (mm_at 15 rfl) vk_both rfl nl_both rfl rfl rfl rfl ?_
    exact w.mono (Nat.le_refl _) (fun o B' ⟨v, ho, w⟩ => ⟨some (iv v), ho, z_wk (r_closed_43_ok hm w) trivial⟩)
  · intro q; have w := w.2 q
    refine z_ldk (ok := q_isA) (n := 0) (ck_at dt_closed 10 rfl) rfl rfl (fun _ => rfl) rfl rfl ?_
    refine z_getR (j := 39) (a := 26) (ck_at dt_closed 11 rfl) own_closed (mf_at 27 rfl) (by decide) rfl rfl ?_
    refine z_ldk (ok := q_isI) (n := 1) (ck_at dt_closed 12 rfl) rfl rfl (fun _ => rfl) rfl rfl ?_
    refine z_iald (j := 39) (n := 12) (ck_at dt_closed 13 rfl) rfl rfl rfl p1 p2 ?_
    refine z_goto (t := 43) (ck_at dt_closed 14 rfl) rfl ?_
    exact z_wk (r_closed_43_ok hm w) trivial
/-! joins(I)V -/
def t_joins : List (Nat × Instr × Nat) := [(0, .aload_n 0, 1), (1, .getfield 200, 3), (4, .iconst 1, 1), (5, .isub, 1), (6, .istore_n 2, 1), (7, .aload_n 0, 1), (8, .getfield 183, 3), (11, .ifCond .ge 22, 3), (14, .aload_n 0, 1), (15, .getfield 94, 3), (18, .iload_n 2, 1), (19, .aload_n 0, 1), (20, .iconst 1, 1), (21, .aload_n 0, 1), (22, .getfield 94, 3), (25, .iload_n 2, 1), (26, .iaload, 1), (27, .iload_n 1, 1), (28, .iconst 0, 1), (29, .invokevirtual 203, 3), (32, .iastore, 1), (33, .return_, 1)]
set_option maxRecDepth 100000 in
theorem dt_joins : q_ck k_joins t_joins = true := by decide +kernel
def r_joins_32 (m : Nat) (h0 : qH) (d : Nat) (s1 s2 : Int) (B : qB) (Q : qO → qB → Prop) : Prop := 0 ≤ s1 ∧ s1 < 12 ∧ Q (.inl none) (u2 B 39 s1 s2)
theorem r_joins_32_ok {m : Nat} {h0 : qH} {d : Nat} {s1 s2 : Int} {B : qB} {Q : qO → qB → Prop} (hm : m + 100 < 1000000000) (w : r_joins_32 m h0 d s1 s2 B Q) : qZ m h0 (d + 1) k_joins 32 [none, none, none] [iv s2, iv s1, .ref (m + 1 + 26)] B Q := by
  unfold r_joins_32 at w
  obtain ⟨p1, p2, w⟩ := w
  refine z_iast (j := 39) (n := 12) hm (ck_at dt_joins 20 rfl) rfl rfl rfl p1 p2 ?_
  exact z_ret0 (ck_at dt_joins 21 rfl) rt_joins w
def r_joins_0 (m : Nat) (h0 : qH) (d : Nat) (x1 : Int) (B : qB) (Q : qO → qB → Prop) : Prop := R32 (B 35 0) ∧ (B 35 0 ≥ 0 → Q (.inl none) B) ∧ (B 35 0 < 0 → 0 ≤ (B 41 0) - 1 ∧ (B 41 0) - 1 < 12 ∧ qZ m h0 d k_both 0 [some (.ref m), some (iv 1), some (iv (B 39 ((B 41 0) - 1))), some (iv x1), some (iv 0), none, none, none] [] B (fun o B' => ∃ v : Int, o = .inl (some (iv v)) ∧ r_joins_32 m h0 d ((B 41 0) - 1) v B' Q))
theorem r_joins_0_ok {m : Nat} {h0 : qH} {d : Nat} {x1 : Int} {B : qB} {Q : qO → qB → Prop} (hm : m + 100 < 1000000000) (w : r_joins_0 m h0 d x1 B Q) : qZ m h0 (d + 1) k_joins 0 [some (.ref m), some (iv x1), none] [] B Q := by
  unfold r_joins_0 at w
  obtain ⟨p1, w⟩ := w
  refine z_ldk (ok := q_isA) (n := 0) (ck_at dt_joins 0 rfl) rfl rfl (fun _ => rfl) rfl rfl ?_
  refine z_getI (j := 41) (ck_at dt_joins 1 rfl) own_joins (mf_at 58 rfl) (by decide) rfl ?_
  refine z_op (ck_at dt_joins 2 rfl) rfl (o_const _) ?_
  refine z_op (ck_at dt_joins 3 rfl) rfl o_isub ?_
  refine z_st1 (ok := q_isI) (n := 2) (L' := [some (.ref m), some (iv x1), some (iv ((B 41 0) - 1))]) (ck_at dt_joins 4 rfl) rfl (fun _ => rfl) (fun _ _ => rfl) rfl nl_joins (by decide) rfl rfl ?_
  refine z_ldk (ok := q_isA) (n := 0) (ck_at dt_joins 5 rfl) rfl rfl (fun _ => rfl) rfl rfl ?_
  refine z_getI (j := 35) (ck_at dt_joins 6 rfl) own_joins (mf_at 51 rfl) (by decide) rfl ?_
  refine z_ifz (t := 33) (ck_at dt_joins 7 rfl) rfl p1 ?_ ?_
  · intro q; have w := w.1 q
    exact z_ret0 (ck_at dt_joins 21 rfl) rt_joins w
  · intro q; have w := w.2 q
    obtain ⟨p2, p3, w⟩ := w
    refine z_ldk (ok := q_isA) (n := 0) (ck_at dt_joins 8 rfl) rfl rfl (fun _ => rfl) rfl rfl ?_
    refine z_getR (j := 39) (a := 26) (ck_at dt_joins 9 rfl) own_joins (mf_at 27 rfl) (by decide) rfl rfl ?_
    refine z_ldk (ok := q_isI) (n := 2) (ck_at dt_joins 10 rfl) rfl rfl (fun _ => rfl) rfl rfl ?_
    refine z_ldk (ok := q_isA) (n := 0) (ck_at dt_joins 11 rfl) rfl rfl (fun _ => rfl) rfl rfl ?_
    refine z_op (ck_at dt_joins 12 rfl) rfl (o_const _) ?_
    refine z_ldk (ok := q_isA) (n := 0) (ck_at dt_joins 13 rfl) rfl rfl (fun _ => rfl) rfl rfl ?_
    refine z_getR (j := 39) (a := 26) (ck_at dt_joins 14 rfl) own_joins (mf_at 27 rfl) (by decide) rfl rfl ?_
    refine z_ldk (ok := q_isI) (n := 2) (ck_at dt_joins 15 rfl) rfl rfl (fun _ => rfl) rfl rfl ?_
    refine z_iald (j := 39) (n := 12) (ck_at dt_joins 16 rfl) rfl rfl rfl p2 p3 ?_
    refine z_ldk (ok := q_isI) (n := 1) (ck_at dt_joins 17 rfl) rfl rfl (fun _ => rfl) rfl rfl ?_
    refine z_op (ck_at dt_joins 18 rfl) rfl (o_const _) ?_
    refine z_virt (k' := k_both) (n := 3) (as := [iv 1, iv (B 39 ((B 41 0) - 1)), iv x1, iv 0]) (r := [iv ((B 41 0) - 1), .ref (m + 1 + 26)]) (ck_at dt_joins 19 rfl) own_joins (mm_at 15 rfl) vk_both rfl nl_both rfl rfl rfl rfl ?_
    exact w.mono (Nat.le_refl _) (fun o B' ⟨v, ho, w⟩ => ⟨some (iv v), ho, z_wk (r_joins_32_ok hm w) trivial⟩)
/-! single(I)I -/
def t_single : List (Nat × Instr × Nat) := [(0, .aload_n 0, 1), (1, .iload_n 1, 1), (2, .iconst 0, 1), (3, .iconst 0, 1), (4, .invokevirtual 196, 3), (7, .istore_n 2, 1), (8, .aload_n 0, 1), (9, .getfield 71, 3), (12, .iload_n 2, 1), (13, .iconst 1, 1), (14, .iastore, 1), (15, .iload_n 2, 1), (16, .ireturn, 1)]
set_option maxRecDepth 100000 in
theorem dt_single : q_ck k_single t_single = true := by decide +kernel
def r_single_7 (m : Nat) (h0 : qH) (d : Nat) (s0 : Int) (B : qB) (Q : qO → qB → Prop) : Prop := 0 ≤ s0 ∧ s0 < 3000 ∧ Q (.inl (some (iv s0))) (u2 B 24 s0 1)
theorem r_single_7_ok {m : Nat} {h0 : qH} {d : Nat} {s0 : Int} {B : qB} {Q : qO → qB → Prop} (hm : m + 100 < 1000000000) (w : r_single_7 m h0 d s0 B Q) : qZ m h0 (d + 1) k_single 7 [some (.ref m), none, none] [iv s0] B Q := by
  unfold r_single_7 at w
  obtain ⟨p1, p2, w⟩ := w
  refine z_st1 (ok := q_isI) (n := 2) (L' := [some (.ref m), none, some (iv s0)]) (ck_at dt_single 5 rfl) rfl (fun _ => rfl) (fun _ _ => rfl) rfl nl_single (by decide) trivial rfl ?_
  refine z_ldk (ok := q_isA) (n := 0) (ck_at dt_single 6 rfl) rfl rfl (fun _ => rfl) rfl rfl ?_
  refine z_getR (j := 24) (a := 19) (ck_at dt_single 7 rfl) own_single (mf_at 20 rfl) (by decide) rfl rfl ?_
  refine z_ldk (ok := q_isI) (n := 2) (ck_at dt_single 8 rfl) rfl rfl (fun _ => rfl) rfl rfl ?_
  refine z_op (ck_at dt_single 9 rfl) rfl (o_const _) ?_
  refine z_iast (j := 24) (n := 3000) hm (ck_at dt_single 10 rfl) rfl rfl rfl p1 p2 ?_
  refine z_ldk (ok := q_isI) (n := 2) (ck_at dt_single 11 rfl) rfl rfl (fun _ => rfl) rfl rfl ?_
  exact z_retI (ck_at dt_single 12 rfl) rt_single w
def r_single_0 (m : Nat) (h0 : qH) (d : Nat) (x1 : Int) (B : qB) (Q : qO → qB → Prop) : Prop := qZ m h0 d k_newNode 0 [some (.ref m), some (iv x1), some (iv 0), some (iv 0)] [] B (fun o B' => ∃ v : Int, o = .inl (some (iv v)) ∧ r_single_7 m h0 d v B' Q)
theorem r_single_0_ok {m : Nat} {h0 : qH} {d : Nat} {x1 : Int} {B : qB} {Q : qO → qB → Prop} (hm : m + 100 < 1000000000) (w : r_single_0 m h0 d x1 B Q) : qZ m h0 (d + 1) k_single 0 [some (.ref m), some (iv x1), none] [] B Q := by
  unfold r_single_0 at w
  refine z_ldk (ok := q_isA) (n := 0) (ck_at dt_single 0 rfl) rfl rfl (fun _ => rfl) rfl rfl ?_
  refine z_ldk (ok := q_isI) (n := 1) (ck_at dt_single 1 rfl) rfl rfl (fun _ => rfl) rfl rfl ?_
  refine z_op (ck_at dt_single 2 rfl) rfl (o_const _) ?_
  refine z_op (ck_at dt_single 3 rfl) rfl (o_const _) ?_
  refine z_virt (k' := k_newNode) (n := 0) (as := [iv x1, iv 0, iv 0]) (r := []) (ck_at dt_single 4 rfl) own_single (mm_at 8 rfl) vk_newNode rfl nl_newNode rfl rfl rfl rfl ?_
  exact w.mono (Nat.le_refl _) (fun o B' ⟨v, ho, w⟩ => ⟨some (iv v), ho, z_wk (r_single_7_ok hm w) ⟨rfl, trivial⟩⟩)
/-! number()I -/
def t_number : List (Nat × Instr × Nat) := [(0, .aload_n 0, 1), (1, .getfield 213, 3), (4, .istore_n 1, 1), (5, .aload_n 0, 1), (6, .aload_n 0, 1), (7, .getfield 213, 3), (10, .invokevirtual 220, 3), (13, .bipush 48, 2), (15, .bipush 57, 2), (17, .invokestatic 170, 3), (20, .ifCond .ne 12, 3), (23, .aload_n 0, 1), (24, .aload_n 0, 1), (25, .getfield 213, 3), (28, .invokevirtual 242, 3), (31, .ireturn, 1), (32, .iconst 0, 1), (33, .istore_n 2, 1), (34, .aload_n 0, 1), (35, .aload_n 0, 1), (36, .getfield 213, 3), (39, .invokevirtual 220, 3), (42, .bipush 48, 2), (44, .bipush 57, 2), (46, .invokestatic 170, 3), (49, .ifCond .eq 54, 3), (52, .bipush 10, 2), (54, .iload_n 2, 1), (55, .imul, 1), (56, .aload_n 0, 1), (57, .aload_n 0, 1), (58, .getfield 213, 3), (61, .invokevirtual 220, 3), (64, .iadd, 1), (65, .bipush 48, 2), (67, .isub, 1), (68, .istore_n 2, 1), (69, .iload_n 2, 1), (70, .sipush 1000, 3), (73, .if_icmp .le 7, 3), (76, .sipush 1000, 3), (79, .istore_n 2, 1), (80, .aload_n 0, 1), (81, .dup, 1), (82, .getfield 213, 3), (85, .iconst 1, 1), (86, .iadd, 1), (87, .putfield 213, 3), (90, .aload_n 0, 1), (91, .iload_n 1, 1), (92, .invokevirtual 220, 3), (95, .bipush 48, 2), (97, .if_icmp .ne (-63), 3), (100, .goto 3, 3), (103, .iload_n 2, 1), (104, .bipush 20, 2), (106, .if_icmp .le 11, 3), (109, .aload_n 0, 1), (110, .iload_n 1, 1), (111, .invokevirtual 242, 3), (114, .goto 4, 3), (117, .iload_n 2, 1), (118, .ireturn, 1)]
set_option maxRecDepth 100000 in
theorem dt_number : q_ck k_number t_number = true := by decide +kernel
def r_number_114 (m : Nat) (h0 : qH) (d : Nat) (s0 : Int) (B : qB) (Q : qO → qB → Prop) : Prop := Q (.inl (some (iv s0))) B
theorem r_number_114_ok {m : Nat} {h0 : qH} {d : Nat} {s0 : Int} {B : qB} {Q : qO → qB → Prop} (hm : m + 100 < 1000000000) (w : r_number_114 m h0 d s0 B Q) : qZ m h0 (d + 1) k_number 114 [none, none, none] [iv s0] B Q := by
  unfold r_number_114 at w
  refine z_goto (t := 118) (ck_at dt_number 60 rfl) rfl ?_
  exact z_retI (ck_at dt_number 62 rfl) rt_number w
def r_number_103 (m : Nat) (h0 : qH) (d : Nat) (x1 x2 : Int) (B : qB) (Q : qO → qB → Prop) : Prop := R32 x2 ∧ (x2 ≤ 20 → Q (.inl (some (iv x2))) B) ∧ (x2 > 20 → qZ m h0 d k_wrong 0 [some (.ref m), some (iv x1)] [] B (fun o B' => ∃ v : Int, o = .inl (some (iv v)) ∧ r_number_114 m h0 d v B' Q))
theorem r_number_103_ok {m : Nat} {h0 : qH} {d : Nat} {x1 x2 : Int} {B : qB} {Q : qO → qB → Prop} (hm : m + 100 < 1000000000) (w : r_number_103 m h0 d x1 x2 B Q) : qZ m h0 (d + 1) k_number 103 [some (.ref m), some (iv x1), some (iv x2)] [] B Q := by
  unfold r_number_103 at w
  obtain ⟨p1, w⟩ := w
  refine z_ldk (ok := q_isI) (n := 2) (ck_at dt_number 54 rfl) rfl rfl (fun _ => rfl) rfl rfl ?_
  refine z_op (ck_at dt_number 55 rfl) rfl (o_bipush _ (by decide)) ?_
  refine z_icmp (t := 117) (ck_at dt_number 56 rfl) rfl p1 ⟨by decide, by decide⟩ ?_ ?_
  · intro q; have w := w.1 q
    refine z_ldk (ok := q_isI) (n := 2) (ck_at dt_number 61 rfl) rfl rfl (fun _ => rfl) rfl rfl ?_
    exact z_retI (ck_at dt_number 62 rfl) rt_number w
  · intro q; have w := w.2 q
    refine z_ldk (ok := q_isA) (n := 0) (ck_at dt_number 57 rfl) rfl rfl (fun _ => rfl) rfl rfl ?_
    refine z_ldk (ok := q_isI) (n := 1) (ck_at dt_number 58 rfl) rfl rfl (fun _ => rfl) rfl rfl ?_
    refine z_virt (k' := k_wrong) (n := 0) (as := [iv x1]) (r := []) (ck_at dt_number 59 rfl) own_number (mm_at 14 rfl) vk_wrong rfl nl_wrong rfl rfl rfl rfl ?_
    exact w.mono (Nat.le_refl _) (fun o B' ⟨v, ho, w⟩ => ⟨some (iv v), ho, z_wk (r_number_114_ok hm w) trivial⟩)
def r_number_95 (m : Nat) (h0 : qH) (d : Nat) (x1 x2 s0 : Int) (B : qB) (Q : qO → qB → Prop) : Prop := R32 s0 ∧ (¬ s0 = 48 → qZ m h0 (d + 1) k_number 34 [some (.ref m), some (iv x1), some (iv x2)] [] B Q) ∧ (s0 = 48 → r_number_103 m h0 d x1 x2 B Q)
theorem r_number_95_ok {m : Nat} {h0 : qH} {d : Nat} {x1 x2 s0 : Int} {B : qB} {Q : qO → qB → Prop} (hm : m + 100 < 1000000000) (w : r_number_95 m h0 d x1 x2 s0 B Q) : qZ m h0 (d + 1) k_number 95 [some (.ref m), some (iv x1), some (iv x2)] [iv s0] B Q := by
  unfold r_number_95 at w
  obtain ⟨p1, w⟩ := w
  refine z_op (ck_at dt_number 51 rfl) rfl (o_bipush _ (by decide)) ?_
  refine z_icmp (t := 34) (ck_at dt_number 52 rfl) rfl p1 ⟨by decide, by decide⟩ ?_ ?_
  · intro q; have w := w.1 q
    exact z_wk w ⟨rfl, ⟨rfl, ⟨rfl, trivial⟩⟩⟩
  · intro q; have w := w.2 q
    refine z_goto (t := 103) (ck_at dt_number 53 rfl) rfl ?_
    exact z_wk (r_number_103_ok hm w) ⟨rfl, ⟨rfl, ⟨rfl, trivial⟩⟩⟩
def r_number_80 (m : Nat) (h0 : qH) (d : Nat) (x1 x2 : Int) (B : qB) (Q : qO → qB → Prop) : Prop := qZ m h0 d k_signAt 0 [some (.ref m), some (iv x1)] [] (u2 B 33 0 ((B 33 0) + 1)) (fun o B' => ∃ v : Int, o = .inl (some (iv v)) ∧ r_number_95 m h0 d x1 x2 v B' Q)
theorem r_number_80_ok {m : Nat} {h0 : qH} {d : Nat} {x1 x2 : Int} {B : qB} {Q : qO → qB → Prop} (hm : m + 100 < 1000000000) (w : r_number_80 m h0 d x1 x2 B Q) : qZ m h0 (d + 1) k_number 80 [some (.ref m), some (iv x1), some (iv x2)] [] B Q := by
  unfold r_number_80 at w
  refine z_ldk (ok := q_isA) (n := 0) (ck_at dt_number 42 rfl) rfl rfl (fun _ => rfl) rfl rfl ?_
  refine z_op (ck_at dt_number 43 rfl) rfl rfl ?_
  refine z_getI (j := 33) (ck_at dt_number 44 rfl) own_number (mf_at 57 rfl) (by decide) rfl ?_
  refine z_op (ck_at dt_number 45 rfl) rfl (o_const _) ?_
  refine z_op (ck_at dt_number 46 rfl) rfl o_iadd ?_
  refine z_putI (j := 33) hm (ck_at dt_number 47 rfl) own_number (mf_at 57 rfl) (by decide) rfl rfl rfl ?_
  refine z_ldk (ok := q_isA) (n := 0) (ck_at dt_number 48 rfl) rfl rfl (fun _ => rfl) rfl rfl ?_
  refine z_ldk (ok := q_isI) (n := 1) (ck_at dt_number 49 rfl) rfl rfl (fun _ => rfl) rfl rfl ?_
  refine z_virt (k' := k_signAt) (n := 0) (as := [iv x1]) (r := []) (ck_at dt_number 50 rfl) own_number (mm_at 6 rfl) vk_signAt rfl nl_signAt rfl rfl rfl rfl ?_
  exact w.mono (Nat.le_refl _) (fun o B' ⟨v, ho, w⟩ => ⟨some (iv v), ho, z_wk (r_number_95_ok hm w) ⟨rfl, ⟨rfl, ⟨rfl, trivial⟩⟩⟩⟩)
def r_number_64 (m : Nat) (h0 : qH) (d : Nat) (x1 s0 s1 : Int) (B : qB) (Q : qO → qB → Prop) : Prop := R32 ((s0 + s1) - 48) ∧ ((s0 + s1) - 48 ≤ 1000 → r_number_80 m h0 d x1 ((s0 + s1) - 48) B Q) ∧ ((s0 + s1) - 48 > 1000 → r_number_80 m h0 d x1 1000 B Q)
theorem r_number_64_ok {m : Nat} {h0 : qH} {d : Nat} {x1 s0 s1 : Int} {B : qB} {Q : qO → qB → Prop} (hm : m + 100 < 1000000000) (w : r_number_64 m h0 d x1 s0 s1 B Q) : qZ m h0 (d + 1) k_number 64 [some (.ref m), some (iv x1), none] [iv s1, iv s0] B Q := by
  unfold r_number_64 at w
  obtain ⟨p1, w⟩ := w
  refine z_op (ck_at dt_number 33 rfl) rfl o_iadd ?_
  refine z_op (ck_at dt_number 34 rfl) rfl (o_bipush _ (by decide)) ?_
  refine z_op (ck_at dt_number 35 rfl) rfl o_isub ?_
  refine z_st1 (ok := q_isI) (n := 2) (L' := [some (.ref m), some (iv x1), some (iv ((s0 + s1) - 48))]) (ck_at dt_number 36 rfl) rfl (fun _ => rfl) (fun _ _ => rfl) rfl nl_number (by decide) rfl rfl ?_
  refine z_ldk (ok := q_isI) (n := 2) (ck_at dt_number 37 rfl) rfl rfl (fun _ => rfl) rfl rfl ?_
  refine z_op (ck_at dt_number 38 rfl) rfl (o_sipush _ (by decide)) ?_
  refine z_icmp (t := 80) (ck_at dt_number 39 rfl) rfl p1 ⟨by decide, by decide⟩ ?_ ?_
  · intro q; have w := w.1 q
    exact z_wk (r_number_80_ok hm w) ⟨rfl, ⟨rfl, ⟨rfl, trivial⟩⟩⟩
  · intro q; have w := w.2 q
    refine z_op (ck_at dt_number 40 rfl) rfl (o_sipush _ (by decide)) ?_
    refine z_st1 (ok := q_isI) (n := 2) (L' := [some (.ref m), some (iv x1), some (iv 1000)]) (ck_at dt_number 41 rfl) rfl (fun _ => rfl) (fun _ _ => rfl) rfl nl_number (by decide) rfl rfl ?_
    exact z_wk (r_number_80_ok hm w) ⟨rfl, ⟨rfl, ⟨rfl, trivial⟩⟩⟩
def r_number_49 (m : Nat) (h0 : qH) (d : Nat) (x1 x2 s0 : Int) (B : qB) (Q : qO → qB → Prop) : Prop := R32 s0 ∧ (s0 = 0 → r_number_103 m h0 d x1 x2 B Q) ∧ (¬ s0 = 0 → qZ m h0 d k_signAt 0 [some (.ref m), some (iv (B 33 0))] [] B (fun o B' => ∃ v : Int, o = .inl (some (iv v)) ∧ r_number_64 m h0 d x1 (10 * x2) v B' Q))
theorem r_number_49_ok {m : Nat} {h0 : qH} {d : Nat} {x1 x2 s0 : Int} {B : qB} {Q : qO → qB → Prop} (hm : m + 100 < 1000000000) (w : r_number_49 m h0 d x1 x2 s0 B Q) : qZ m h0 (d + 1) k_number 49 [some (.ref m), some (iv x1), some (iv x2)] [iv s0] B Q := by
  unfold r_number_49 at w
  obtain ⟨p1, w⟩ := w
  refine z_ifz (t := 103) (ck_at dt_number 25 rfl) rfl p1 ?_ ?_
  · intro q; have w := w.1 q
    exact z_wk (r_number_103_ok hm w) ⟨rfl, ⟨rfl, ⟨rfl, trivial⟩⟩⟩
  · intro q; have w := w.2 q
    refine z_op (ck_at dt_number 26 rfl) rfl (o_bipush _ (by decide)) ?_
    refine z_ldk (ok := q_isI) (n := 2) (ck_at dt_number 27 rfl) rfl rfl (fun _ => rfl) rfl rfl ?_
    refine z_op (ck_at dt_number 28 rfl) rfl o_imul ?_
    refine z_ldk (ok := q_isA) (n := 0) (ck_at dt_number 29 rfl) rfl rfl (fun _ => rfl) rfl rfl ?_
    refine z_ldk (ok := q_isA) (n := 0) (ck_at dt_number 30 rfl) rfl rfl (fun _ => rfl) rfl rfl ?_
    refine z_getI (j := 33) (ck_at dt_number 31 rfl) own_number (mf_at 57 rfl) (by decide) rfl ?_
    refine z_virt (k' := k_signAt) (n := 0) (as := [iv (B 33 0)]) (r := [iv (10 * x2)]) (ck_at dt_number 32 rfl) own_number (mm_at 6 rfl) vk_signAt rfl nl_signAt rfl rfl rfl rfl ?_
    exact w.mono (Nat.le_refl _) (fun o B' ⟨v, ho, w⟩ => ⟨some (iv v), ho, z_wk (r_number_64_ok hm w) ⟨rfl, ⟨rfl, trivial⟩⟩⟩)
def r_number_42 (m : Nat) (h0 : qH) (d : Nat) (x1 x2 s0 : Int) (B : qB) (Q : qO → qB → Prop) : Prop := qZ m h0 d k_in 0 [some (iv s0), some (iv 48), some (iv 57)] [] B (fun o B' => ∃ v : Int, o = .inl (some (iv v)) ∧ r_number_49 m h0 d x1 x2 v B' Q)
theorem r_number_42_ok {m : Nat} {h0 : qH} {d : Nat} {x1 x2 s0 : Int} {B : qB} {Q : qO → qB → Prop} (hm : m + 100 < 1000000000) (w : r_number_42 m h0 d x1 x2 s0 B Q) : qZ m h0 (d + 1) k_number 42 [some (.ref m), some (iv x1), some (iv x2)] [iv s0] B Q := by
  unfold r_number_42 at w
  refine z_op (ck_at dt_number 22 rfl) rfl (o_bipush _ (by decide)) ?_
  refine z_op (ck_at dt_number 23 rfl) rfl (o_bipush _ (by decide)) ?_
  refine z_stat (k' := k_in) (n := 0) (as := [iv s0, iv 48, iv 57]) (r := []) (ck_at dt_number 24 rfl) own_number (mm_at 2 rfl) (ms_at 0 rfl) vk_in rfl nl_in rfl rfl rfl rfl ?_
  exact w.mono (Nat.le_refl _) (fun o B' ⟨v, ho, w⟩ => ⟨some (iv v), ho, z_wk (r_number_49_ok hm w) ⟨rfl, ⟨rfl, ⟨rfl, trivial⟩⟩⟩⟩)
def r_number_34 (m : Nat) (h0 : qH) (d : Nat) (x1 x2 : Int) (B : qB) (Q : qO → qB → Prop) : Prop := qZ m h0 d k_signAt 0 [some (.ref m), some (iv (B 33 0))] [] B (fun o B' => ∃ v : Int, o = .inl (some (iv v)) ∧ r_number_42 m h0 d x1 x2 v B' Q)
theorem r_number_34_ok {m : Nat} {h0 : qH} {d : Nat} {x1 x2 : Int} {B : qB} {Q : qO → qB → Prop} (hm : m + 100 < 1000000000) (w : r_number_34 m h0 d x1 x2 B Q) : qZ m h0 (d + 1) k_number 34 [some (.ref m), some (iv x1), some (iv x2)] [] B Q := by
  unfold r_number_34 at w
  refine z_ldk (ok := q_isA) (n := 0) (ck_at dt_number 18 rfl) rfl rfl (fun _ => rfl) rfl rfl ?_
  refine z_ldk (ok := q_isA) (n := 0) (ck_at dt_number 19 rfl) rfl rfl (fun _ => rfl) rfl rfl ?_
  refine z_getI (j := 33) (ck_at dt_number 20 rfl) own_number (mf_at 57 rfl) (by decide) rfl ?_
  refine z_virt (k' := k_signAt) (n := 0) (as := [iv (B 33 0)]) (r := []) (ck_at dt_number 21 rfl) own_number (mm_at 6 rfl) vk_signAt rfl nl_signAt rfl rfl rfl rfl ?_
  exact w.mono (Nat.le_refl _) (fun o B' ⟨v, ho, w⟩ => ⟨some (iv v), ho, z_wk (r_number_42_ok hm w) ⟨rfl, ⟨rfl, ⟨rfl, trivial⟩⟩⟩⟩)
def r_number_31 (m : Nat) (h0 : qH) (d : Nat) (s0 : Int) (B : qB) (Q : qO → qB → Prop) : Prop := Q (.inl (some (iv s0))) B
theorem r_number_31_ok {m : Nat} {h0 : qH} {d : Nat} {s0 : Int} {B : qB} {Q : qO → qB → Prop} (hm : m + 100 < 1000000000) (w : r_number_31 m h0 d s0 B Q) : qZ m h0 (d + 1) k_number 31 [none, none, none] [iv s0] B Q := by
  unfold r_number_31 at w
  exact z_retI (ck_at dt_number 15 rfl) rt_number w
def r_number_20 (m : Nat) (h0 : qH) (d : Nat) (x1 s0 : Int) (B : qB) (Q : qO → qB → Prop) : Prop := R32 s0 ∧ (¬ s0 = 0 → qZ m h0 (d + 1) k_number 34 [some (.ref m), some (iv x1), some (iv 0)] [] B Q) ∧ (s0 = 0 → qZ m h0 d k_wrong 0 [some (.ref m), some (iv (B 33 0))] [] B (fun o B' => ∃ v : Int, o = .inl (some (iv v)) ∧ r_number_31 m h0 d v B' Q))
theorem r_number_20_ok {m : Nat} {h0 : qH} {d : Nat} {x1 s0 : Int} {B : qB} {Q : qO → qB → Prop} (hm : m + 100 < 1000000000) (w : r_number_20 m h0 d x1 s0 B Q) : qZ m h0 (d + 1) k_number 20 [some (.ref m), some (iv x1), none] [iv s0] B Q := by
  unfold r_number_20 at w
  obtain ⟨p1, w⟩ := w
  refine z_ifz (t := 32) (ck_at dt_number 10 rfl) rfl p1 ?_ ?_
  · intro q; have w := w.1 q
    refine z_op (ck_at dt_number 16 rfl) rfl (o_const _) ?_
    refine z_st1 (ok := q_isI) (n := 2) (L' := [some (.ref m), some (iv x1), some (iv 0)]) (ck_at dt_number 17 rfl) rfl (fun _ => rfl) (fun _ _ => rfl) rfl nl_number (by decide) rfl rfl ?_
    exact z_wk w ⟨rfl, ⟨rfl, ⟨rfl, trivial⟩⟩⟩
  · intro q; have w := w.2 q
    refine z_ldk (ok := q_isA) (n := 0) (ck_at dt_number 11 rfl) rfl rfl (fun _ => rfl) rfl rfl ?_
    refine z_ldk (ok := q_isA) (n := 0) (ck_at dt_number 12 rfl) rfl rfl (fun _ => rfl) rfl rfl ?_
    refine z_getI (j := 33) (ck_at dt_number 13 rfl) own_number (mf_at 57 rfl) (by decide) rfl ?_
    refine z_virt (k' := k_wrong) (n := 0) (as := [iv (B 33 0)]) (r := []) (ck_at dt_number 14 rfl) own_number (mm_at 14 rfl) vk_wrong rfl nl_wrong rfl rfl rfl rfl ?_
    exact w.mono (Nat.le_refl _) (fun o B' ⟨v, ho, w⟩ => ⟨some (iv v), ho, z_wk (r_number_31_ok hm w) trivial⟩)
def r_number_13 (m : Nat) (h0 : qH) (d : Nat) (x1 s0 : Int) (B : qB) (Q : qO → qB → Prop) : Prop := qZ m h0 d k_in 0 [some (iv s0), some (iv 48), some (iv 57)] [] B (fun o B' => ∃ v : Int, o = .inl (some (iv v)) ∧ r_number_20 m h0 d x1 v B' Q)
theorem r_number_13_ok {m : Nat} {h0 : qH} {d : Nat} {x1 s0 : Int} {B : qB} {Q : qO → qB → Prop} (hm : m + 100 < 1000000000) (w : r_number_13 m h0 d x1 s0 B Q) : qZ m h0 (d + 1) k_number 13 [some (.ref m), some (iv x1), none] [iv s0] B Q := by
  unfold r_number_13 at w
  refine z_op (ck_at dt_number 7 rfl) rfl (o_bipush _ (by decide)) ?_
  refine z_op (ck_at dt_number 8 rfl) rfl (o_bipush _ (by decide)) ?_
  refine z_stat (k' := k_in) (n := 0) (as := [iv s0, iv 48, iv 57]) (r := []) (ck_at dt_number 9 rfl) own_number (mm_at 2 rfl) (ms_at 0 rfl) vk_in rfl nl_in rfl rfl rfl rfl ?_
  exact w.mono (Nat.le_refl _) (fun o B' ⟨v, ho, w⟩ => ⟨some (iv v), ho, z_wk (r_number_20_ok hm w) ⟨rfl, ⟨rfl, trivial⟩⟩⟩)
def r_number_0 (m : Nat) (h0 : qH) (d : Nat) (B : qB) (Q : qO → qB → Prop) : Prop := qZ m h0 d k_signAt 0 [some (.ref m), some (iv (B 33 0))] [] B (fun o B' => ∃ v : Int, o = .inl (some (iv v)) ∧ r_number_13 m h0 d (B 33 0) v B' Q)
theorem r_number_0_ok {m : Nat} {h0 : qH} {d : Nat} {B : qB} {Q : qO → qB → Prop} (hm : m + 100 < 1000000000) (w : r_number_0 m h0 d B Q) : qZ m h0 (d + 1) k_number 0 [some (.ref m), none, none] [] B Q := by
  unfold r_number_0 at w
  refine z_ldk (ok := q_isA) (n := 0) (ck_at dt_number 0 rfl) rfl rfl (fun _ => rfl) rfl rfl ?_
  refine z_getI (j := 33) (ck_at dt_number 1 rfl) own_number (mf_at 57 rfl) (by decide) rfl ?_
  refine z_st1 (ok := q_isI) (n := 1) (L' := [some (.ref m), some (iv (B 33 0)), none]) (ck_at dt_number 2 rfl) rfl (fun _ => rfl) (fun _ _ => rfl) rfl nl_number (by decide) rfl rfl ?_
  refine z_ldk (ok := q_isA) (n := 0) (ck_at dt_number 3 rfl) rfl rfl (fun _ => rfl) rfl rfl ?_
  refine z_ldk (ok := q_isA) (n := 0) (ck_at dt_number 4 rfl) rfl rfl (fun _ => rfl) rfl rfl ?_
  refine z_getI (j := 33) (ck_at dt_number 5 rfl) own_number (mf_at 57 rfl) (by decide) rfl ?_
  refine z_virt (k' := k_signAt) (n := 0) (as := [iv (B 33 0)]) (r := []) (ck_at dt_number 6 rfl) own_number (mm_at 6 rfl) vk_signAt rfl nl_signAt rfl rfl rfl rfl ?_
  exact w.mono (Nat.le_refl _) (fun o B' ⟨v, ho, w⟩ => ⟨some (iv v), ho, z_wk (r_number_13_ok hm w) ⟨rfl, ⟨rfl, trivial⟩⟩⟩)
/-! byteAt(I)I -/
def t_byteAt : List (Nat × Instr × Nat) := [(0, .aload_n 0, 1), (1, .getfield 20, 3), (4, .aload_n 0, 1), (5, .getfield 327, 3), (8, .iload_n 1, 1), (9, .iadd, 1), (10, .iaload, 1), (11, .ireturn, 1)]
set_option maxRecDepth 100000 in
theorem dt_byteAt : q_ck k_byteAt t_byteAt = true := by decide +kernel
def r_byteAt_0 (m : Nat) (h0 : qH) (d : Nat) (x1 : Int) (B : qB) (Q : qO → qB → Prop) : Prop := 0 ≤ (B 58 0) + x1 ∧ (B 58 0) + x1 < 4000 ∧ Q (.inl (some (iv (B 5 ((B 58 0) + x1))))) B
theorem r_byteAt_0_ok {m : Nat} {h0 : qH} {d : Nat} {x1 : Int} {B : qB} {Q : qO → qB → Prop} (hm : m + 100 < 1000000000) (w : r_byteAt_0 m h0 d x1 B Q) : qZ m h0 (d + 1) k_byteAt 0 [some (.ref m), some (iv x1)] [] B Q := by
  unfold r_byteAt_0 at w
  obtain ⟨p1, p2, w⟩ := w
  refine z_ldk (ok := q_isA) (n := 0) (ck_at dt_byteAt 0 rfl) rfl rfl (fun _ => rfl) rfl rfl ?_
  refine z_getR (j := 5) (a := 2) (ck_at dt_byteAt 1 rfl) own_byteAt (mf_at 3 rfl) (by decide) rfl rfl ?_
  refine z_ldk (ok := q_isA) (n := 0) (ck_at dt_byteAt 2 rfl) rfl rfl (fun _ => rfl) rfl rfl ?_
  refine z_getI (j := 58) (ck_at dt_byteAt 3 rfl) own_byteAt (mf_at 67 rfl) (by decide) rfl ?_
  refine z_ldk (ok := q_isI) (n := 1) (ck_at dt_byteAt 4 rfl) rfl rfl (fun _ => rfl) rfl rfl ?_
  refine z_op (ck_at dt_byteAt 5 rfl) rfl o_iadd ?_
  refine z_iald (j := 5) (n := 4000) (ck_at dt_byteAt 6 rfl) rfl rfl rfl p1 p2 ?_
  exact z_retI (ck_at dt_byteAt 7 rfl) rt_byteAt w
/-! later(IIII)V -/
def t_later : List (Nat × Instr × Nat) := [(0, .aload_n 0, 1), (1, .getfield 130, 3), (4, .aload_n 0, 1), (5, .getfield 295, 3), (8, .iload_n 1, 1), (9, .iastore, 1), (10, .aload_n 0, 1), (11, .getfield 133, 3), (14, .aload_n 0, 1), (15, .getfield 295, 3), (18, .iload_n 2, 1), (19, .iastore, 1), (20, .aload_n 0, 1), (21, .getfield 136, 3), (24, .aload_n 0, 1), (25, .getfield 295, 3), (28, .iload_n 3, 1), (29, .iastore, 1), (30, .aload_n 0, 1), (31, .getfield 139, 3), (34, .aload_n 0, 1), (35, .getfield 295, 3), (38, .iload 4, 2), (40, .iastore, 1), (41, .aload_n 0, 1), (42, .dup, 1), (43, .getfield 295, 3), (46, .iconst 1, 1), (47, .iadd, 1), (48, .putfield 295, 3), (51, .return_, 1)]
set_option maxRecDepth 100000 in
theorem dt_later : q_ck k_later t_later = true := by decide +kernel
def r_later_0 (m : Nat) (h0 : qH) (d : Nat) (x1 x2 x3 x4 : Int) (B : qB) (Q : qO → qB → Prop) : Prop := 0 ≤ B 64 0 ∧ B 64 0 < 6000 ∧ Q (.inl none) (u2 (u2 (u2 (u2 (u2 B 60 (B 64 0) x1) 61 (B 64 0) x2) 62 (B 64 0) x3) 63 (B 64 0) x4) 64 0 ((B 64 0) + 1))
theorem r_later_0_ok {m : Nat} {h0 : qH} {d : Nat} {x1 x2 x3 x4 : Int} {B : qB} {Q : qO → qB → Prop} (hm : m + 100 < 1000000000) (w : r_later_0 m h0 d x1 x2 x3 x4 B Q) : qZ m h0 (d + 1) k_later 0 [some (.ref m), some (iv x1), some (iv x2), some (iv x3), some (iv x4)] [] B Q := by
  unfold r_later_0 at w
  obtain ⟨p1, p2, w⟩ := w
  refine z_ldk (ok := q_isA) (n := 0) (ck_at dt_later 0 rfl) rfl rfl (fun _ => rfl) rfl rfl ?_
  refine z_getR (j := 60) (a := 38) (ck_at dt_later 1 rfl) own_later (mf_at 39 rfl) (by decide) rfl rfl ?_
  refine z_ldk (ok := q_isA) (n := 0) (ck_at dt_later 2 rfl) rfl rfl (fun _ => rfl) rfl rfl ?_
  refine z_getI (j := 64) (ck_at dt_later 3 rfl) own_later (mf_at 68 rfl) (by decide) rfl ?_
  refine z_ldk (ok := q_isI) (n := 1) (ck_at dt_later 4 rfl) rfl rfl (fun _ => rfl) rfl rfl ?_
  refine z_iast (j := 60) (n := 6000) hm (ck_at dt_later 5 rfl) rfl rfl rfl p1 p2 ?_
  refine z_ldk (ok := q_isA) (n := 0) (ck_at dt_later 6 rfl) rfl rfl (fun _ => rfl) rfl rfl ?_
  refine z_getR (j := 61) (a := 39) (ck_at dt_later 7 rfl) own_later (mf_at 40 rfl) (by decide) rfl rfl ?_
  refine z_ldk (ok := q_isA) (n := 0) (ck_at dt_later 8 rfl) rfl rfl (fun _ => rfl) rfl rfl ?_
  refine z_getI (j := 64) (ck_at dt_later 9 rfl) own_later (mf_at 68 rfl) (by decide) rfl ?_
  refine z_ldk (ok := q_isI) (n := 2) (ck_at dt_later 10 rfl) rfl rfl (fun _ => rfl) rfl rfl ?_
  refine z_iast (j := 61) (n := 6000) hm (ck_at dt_later 11 rfl) rfl rfl rfl p1 p2 ?_
  refine z_ldk (ok := q_isA) (n := 0) (ck_at dt_later 12 rfl) rfl rfl (fun _ => rfl) rfl rfl ?_
  refine z_getR (j := 62) (a := 40) (ck_at dt_later 13 rfl) own_later (mf_at 41 rfl) (by decide) rfl rfl ?_
  refine z_ldk (ok := q_isA) (n := 0) (ck_at dt_later 14 rfl) rfl rfl (fun _ => rfl) rfl rfl ?_
  refine z_getI (j := 64) (ck_at dt_later 15 rfl) own_later (mf_at 68 rfl) (by decide) rfl ?_
  refine z_ldk (ok := q_isI) (n := 3) (ck_at dt_later 16 rfl) rfl rfl (fun _ => rfl) rfl rfl ?_
  refine z_iast (j := 62) (n := 6000) hm (ck_at dt_later 17 rfl) rfl rfl rfl p1 p2 ?_
  refine z_ldk (ok := q_isA) (n := 0) (ck_at dt_later 18 rfl) rfl rfl (fun _ => rfl) rfl rfl ?_
  refine z_getR (j := 63) (a := 41) (ck_at dt_later 19 rfl) own_later (mf_at 42 rfl) (by decide) rfl rfl ?_
  refine z_ldk (ok := q_isA) (n := 0) (ck_at dt_later 20 rfl) rfl rfl (fun _ => rfl) rfl rfl ?_
  refine z_getI (j := 64) (ck_at dt_later 21 rfl) own_later (mf_at 68 rfl) (by decide) rfl ?_
  refine z_ldk (ok := q_isI) (n := 4) (ck_at dt_later 22 rfl) rfl rfl (fun _ => rfl) rfl rfl ?_
  refine z_iast (j := 63) (n := 6000) hm (ck_at dt_later 23 rfl) rfl rfl rfl p1 p2 ?_
  refine z_ldk (ok := q_isA) (n := 0) (ck_at dt_later 24 rfl) rfl rfl (fun _ => rfl) rfl rfl ?_
  refine z_op (ck_at dt_later 25 rfl) rfl rfl ?_
  refine z_getI (j := 64) (ck_at dt_later 26 rfl) own_later (mf_at 68 rfl) (by decide) rfl ?_
  refine z_op (ck_at dt_later 27 rfl) rfl (o_const _) ?_
  refine z_op (ck_at dt_later 28 rfl) rfl o_iadd ?_
  refine z_putI (j := 64) hm (ck_at dt_later 29 rfl) own_later (mf_at 68 rfl) (by decide) rfl rfl rfl ?_
  exact z_ret0 (ck_at dt_later 30 rfl) rt_later w
/-! split(IIIZ)V -/
def t_split : List (Nat × Instr × Nat) := [(0, .aload_n 0, 1), (1, .getfield 103, 3), (4, .iload_n 1, 1), (5, .iload 4, 2), (7, .ifCond .eq 7, 3), (10, .iload_n 3, 1), (11, .goto 4, 3), (14, .iload_n 2, 1), (15, .iastore, 1), (16, .aload_n 0, 1), (17, .getfield 106, 3), (20, .iload_n 1, 1), (21, .iload 4, 2), (23, .ifCond .eq 7, 3), (26, .iload_n 2, 1), (27, .goto 4, 3), (30, .iload_n 3, 1), (31, .iastore, 1), (32, .return_, 1)]
set_option maxRecDepth 100000 in
theorem dt_split : q_ck k_split t_split = true := by decide +kernel
def r_split_15 (m : Nat) (h0 : qH) (d : Nat) (x1 x2 x3 x4 s1 s2 : Int) (B : qB) (Q : qO → qB → Prop) : Prop := 0 ≤ s1 ∧ s1 < 6000 ∧ R32 x4 ∧ (x4 = 0 → 0 ≤ x1 ∧ x1 < 6000 ∧ Q (.inl none) (u2 (u2 B 43 s1 s2) 44 x1 x3)) ∧ (¬ x4 = 0 → 0 ≤ x1 ∧ x1 < 6000 ∧ Q (.inl none) (u2 (u2 B 43 s1 s2) 44 x1 x2))
theorem r_split_15_ok {m : Nat} {h0 : qH} {d : Nat} {x1 x2 x3 x4 s1 s2 : Int} {B : qB} {Q : qO → qB → Prop} (hm : m + 100 < 1000000000) (w : r_split_15 m h0 d x1 x2 x3 x4 s1 s2 B Q) : qZ m h0 (d + 1) k_split 15 [some (.ref m), some (iv x1), some (iv x2), some (iv x3), some (iv x4)] [iv s2, iv s1, .ref (m + 1 + 29)] B Q := by
  unfold r_split_15 at w
  obtain ⟨p1, p2, p3, w⟩ := w
  refine z_iast (j := 43) (n := 6000) hm (ck_at dt_split 8 rfl) rfl rfl rfl p1 p2 ?_
  refine z_ldk (ok := q_isA) (n := 0) (ck_at dt_split 9 rfl) rfl rfl (fun _ => rfl) rfl rfl ?_
  refine z_getR (j := 44) (a := 30) (ck_at dt_split 10 rfl) own_split (mf_at 31 rfl) (by decide) rfl rfl ?_
  refine z_ldk (ok := q_isI) (n := 1) (ck_at dt_split 11 rfl) rfl rfl (fun _ => rfl) rfl rfl ?_
  refine z_ldk (ok := q_isI) (n := 4) (ck_at dt_split 12 rfl) rfl rfl (fun _ => rfl) rfl rfl ?_
  refine z_ifz (t := 30) (ck_at dt_split 13 rfl) rfl p3 ?_ ?_
  · intro q; have w := w.1 q
    obtain ⟨p4, p5, w⟩ := w
    refine z_ldk (ok := q_isI) (n := 3) (ck_at dt_split 16 rfl) rfl rfl (fun _ => rfl) rfl rfl ?_
    refine z_iast (j := 44) (n := 6000) hm (ck_at dt_split 17 rfl) rfl rfl rfl p4 p5 ?_
    exact z_ret0 (ck_at dt_split 18 rfl) rt_split w
  · intro q; have w := w.2 q
    obtain ⟨p6, p7, w⟩ := w
    refine z_ldk (ok := q_isI) (n := 2) (ck_at dt_split 14 rfl) rfl rfl (fun _ => rfl) rfl rfl ?_
    refine z_goto (t := 31) (ck_at dt_split 15 rfl) rfl ?_
    refine z_iast (j := 44) (n := 6000) hm (ck_at dt_split 17 rfl) rfl rfl rfl p6 p7 ?_
    exact z_ret0 (ck_at dt_split 18 rfl) rt_split w
def r_split_0 (m : Nat) (h0 : qH) (d : Nat) (x1 x2 x3 x4 : Int) (B : qB) (Q : qO → qB → Prop) : Prop := R32 x4 ∧ (x4 = 0 → r_split_15 m h0 d x1 x2 x3 x4 x1 x2 B Q) ∧ (¬ x4 = 0 → r_split_15 m h0 d x1 x2 x3 x4 x1 x3 B Q)
theorem r_split_0_ok {m : Nat} {h0 : qH} {d : Nat} {x1 x2 x3 x4 : Int} {B : qB} {Q : qO → qB → Prop} (hm : m + 100 < 1000000000) (w : r_split_0 m h0 d x1 x2 x3 x4 B Q) : qZ m h0 (d + 1) k_split 0 [some (.ref m), some (iv x1), some (iv x2), some (iv x3), some (iv x4)] [] B Q := by
  unfold r_split_0 at w
  obtain ⟨p1, w⟩ := w
  refine z_ldk (ok := q_isA) (n := 0) (ck_at dt_split 0 rfl) rfl rfl (fun _ => rfl) rfl rfl ?_
  refine z_getR (j := 43) (a := 29) (ck_at dt_split 1 rfl) own_split (mf_at 30 rfl) (by decide) rfl rfl ?_
  refine z_ldk (ok := q_isI) (n := 1) (ck_at dt_split 2 rfl) rfl rfl (fun _ => rfl) rfl rfl ?_
  refine z_ldk (ok := q_isI) (n := 4) (ck_at dt_split 3 rfl) rfl rfl (fun _ => rfl) rfl rfl ?_
  refine z_ifz (t := 14) (ck_at dt_split 4 rfl) rfl p1 ?_ ?_
  · intro q; have w := w.1 q
    refine z_ldk (ok := q_isI) (n := 2) (ck_at dt_split 7 rfl) rfl rfl (fun _ => rfl) rfl rfl ?_
    exact z_wk (r_split_15_ok hm w) ⟨rfl, ⟨rfl, ⟨rfl, ⟨rfl, ⟨rfl, trivial⟩⟩⟩⟩⟩
  · intro q; have w := w.2 q
    refine z_ldk (ok := q_isI) (n := 3) (ck_at dt_split 5 rfl) rfl rfl (fun _ => rfl) rfl rfl ?_
    refine z_goto (t := 15) (ck_at dt_split 6 rfl) rfl ?_
    exact z_wk (r_split_15_ok hm w) ⟨rfl, ⟨rfl, ⟨rfl, ⟨rfl, ⟨rfl, trivial⟩⟩⟩⟩⟩
/-! push(I)V -/
def t_push : List (Nat × Instr × Nat) := [(0, .aload_n 0, 1), (1, .getfield 143, 3), (4, .aload_n 0, 1), (5, .getfield 318, 3), (8, .iload_n 1, 1), (9, .iastore, 1), (10, .aload_n 0, 1), (11, .dup, 1), (12, .getfield 318, 3), (15, .iconst 1, 1), (16, .iadd, 1), (17, .putfield 318, 3), (20, .return_, 1)]
set_option maxRecDepth 100000 in
theorem dt_push : q_ck k_push t_push = true := by decide +kernel
def r_push_0 (m : Nat) (h0 : qH) (d : Nat) (x1 : Int) (B : qB) (Q : qO → qB → Prop) : Prop := 0 ≤ B 66 0 ∧ B 66 0 < 2500000 ∧ Q (.inl none) (u2 (u2 B 65 (B 66 0) x1) 66 0 ((B 66 0) + 1))
theorem r_push_0_ok {m : Nat} {h0 : qH} {d : Nat} {x1 : Int} {B : qB} {Q : qO → qB → Prop} (hm : m + 100 < 1000000000) (w : r_push_0 m h0 d x1 B Q) : qZ m h0 (d + 1) k_push 0 [some (.ref m), some (iv x1)] [] B Q := by
  unfold r_push_0 at w
  obtain ⟨p1, p2, w⟩ := w
  refine z_ldk (ok := q_isA) (n := 0) (ck_at dt_push 0 rfl) rfl rfl (fun _ => rfl) rfl rfl ?_
  refine z_getR (j := 65) (a := 42) (ck_at dt_push 1 rfl) own_push (mf_at 43 rfl) (by decide) rfl rfl ?_
  refine z_ldk (ok := q_isA) (n := 0) (ck_at dt_push 2 rfl) rfl rfl (fun _ => rfl) rfl rfl ?_
  refine z_getI (j := 66) (ck_at dt_push 3 rfl) own_push (mf_at 69 rfl) (by decide) rfl ?_
  refine z_ldk (ok := q_isI) (n := 1) (ck_at dt_push 4 rfl) rfl rfl (fun _ => rfl) rfl rfl ?_
  refine z_iast (j := 65) (n := 2500000) hm (ck_at dt_push 5 rfl) rfl rfl rfl p1 p2 ?_
  refine z_ldk (ok := q_isA) (n := 0) (ck_at dt_push 6 rfl) rfl rfl (fun _ => rfl) rfl rfl ?_
  refine z_op (ck_at dt_push 7 rfl) rfl rfl ?_
  refine z_getI (j := 66) (ck_at dt_push 8 rfl) own_push (mf_at 69 rfl) (by decide) rfl ?_
  refine z_op (ck_at dt_push 9 rfl) rfl (o_const _) ?_
  refine z_op (ck_at dt_push 10 rfl) rfl o_iadd ?_
  refine z_putI (j := 66) hm (ck_at dt_push 11 rfl) own_push (mf_at 69 rfl) (by decide) rfl rfl rfl ?_
  exact z_ret0 (ck_at dt_push 12 rfl) rt_push w
/-! before(II)V -/
def t_before : List (Nat × Instr × Nat) := [(0, .aload_n 0, 1), (1, .iconst (-1), 1), (2, .sipush 2048, 3), (5, .iload_n 1, 1), (6, .imul, 1), (7, .iload_n 2, 1), (8, .iadd, 1), (9, .iconst 1, 1), (10, .iadd, 1), (11, .isub, 1), (12, .invokevirtual 321, 3), (15, .return_, 1)]
set_option maxRecDepth 100000 in
theorem dt_before : q_ck k_before t_before = true := by decide +kernel
def r_before_15 (m : Nat) (h0 : qH) (d : Nat) (B : qB) (Q : qO → qB → Prop) : Prop := Q (.inl none) B
theorem r_before_15_ok {m : Nat} {h0 : qH} {d : Nat} {B : qB} {Q : qO → qB → Prop} (hm : m + 100 < 1000000000) (w : r_before_15 m h0 d B Q) : qZ m h0 (d + 1) k_before 15 [none, none, none] [] B Q := by
  unfold r_before_15 at w
  exact z_ret0 (ck_at dt_before 11 rfl) rt_before w
def r_before_0 (m : Nat) (h0 : qH) (d : Nat) (x1 x2 : Int) (B : qB) (Q : qO → qB → Prop) : Prop := qZ m h0 d k_push 0 [some (.ref m), some (iv ((-1) - (((2048 * x1) + x2) + 1)))] [] B (fun o B' => o = .inl none ∧ r_before_15 m h0 d B' Q)
theorem r_before_0_ok {m : Nat} {h0 : qH} {d : Nat} {x1 x2 : Int} {B : qB} {Q : qO → qB → Prop} (hm : m + 100 < 1000000000) (w : r_before_0 m h0 d x1 x2 B Q) : qZ m h0 (d + 1) k_before 0 [some (.ref m), some (iv x1), some (iv x2)] [] B Q := by
  unfold r_before_0 at w
  refine z_ldk (ok := q_isA) (n := 0) (ck_at dt_before 0 rfl) rfl rfl (fun _ => rfl) rfl rfl ?_
  refine z_op (ck_at dt_before 1 rfl) rfl (o_const _) ?_
  refine z_op (ck_at dt_before 2 rfl) rfl (o_sipush _ (by decide)) ?_
  refine z_ldk (ok := q_isI) (n := 1) (ck_at dt_before 3 rfl) rfl rfl (fun _ => rfl) rfl rfl ?_
  refine z_op (ck_at dt_before 4 rfl) rfl o_imul ?_
  refine z_ldk (ok := q_isI) (n := 2) (ck_at dt_before 5 rfl) rfl rfl (fun _ => rfl) rfl rfl ?_
  refine z_op (ck_at dt_before 6 rfl) rfl o_iadd ?_
  refine z_op (ck_at dt_before 7 rfl) rfl (o_const _) ?_
  refine z_op (ck_at dt_before 8 rfl) rfl o_iadd ?_
  refine z_op (ck_at dt_before 9 rfl) rfl o_isub ?_
  refine z_virt (k' := k_push) (n := 0) (as := [iv ((-1) - (((2048 * x1) + x2) + 1))]) (r := []) (ck_at dt_before 10 rfl) own_before (mm_at 38 rfl) vk_push rfl nl_push rfl rfl rfl rfl ?_
  exact w.mono (Nat.le_refl _) (fun o B' ⟨ho, w⟩ => ⟨none, ho, z_wk (r_before_15_ok hm w) trivial⟩)
/-! restored(I)V -/
def t_restored : List (Nat × Instr × Nat) := [(0, .iconst (-1), 1), (1, .iload_n 1, 1), (2, .isub, 1), (3, .istore_n 2, 1), (4, .iload_n 2, 1), (5, .sipush 2048, 3), (8, .idiv, 1), (9, .istore_n 3, 1), (10, .iload_n 2, 1), (11, .sipush 2048, 3), (14, .irem, 1), (15, .iconst 1, 1), (16, .isub, 1), (17, .istore 4, 2), (19, .iload_n 3, 1), (20, .bipush 32, 2), (22, .if_icmp .ge 14, 3), (25, .aload_n 0, 1), (26, .getfield 112, 3), (29, .iload_n 3, 1), (30, .iload 4, 2), (32, .iastore, 1), (33, .goto 14, 3), (36, .aload_n 0, 1), (37, .getfield 118, 3), (40, .iload_n 3, 1), (41, .bipush 32, 2), (43, .isub, 1), (44, .iload 4, 2), (46, .iastore, 1), (47, .return_, 1)]
set_option maxRecDepth 100000 in
theorem dt_restored : q_ck k_restored t_restored = true := by decide +kernel
def r_restored_0 (m : Nat) (h0 : qH) (d : Nat) (x1 : Int) (B : qB) (Q : qO → qB → Prop) : Prop := (iDiv ((-1) - x1) 2048 ≥ 32 → 0 ≤ (iDiv ((-1) - x1) 2048) - 32 ∧ (iDiv ((-1) - x1) 2048) - 32 < 800 ∧ Q (.inl none) (u2 B 51 ((iDiv ((-1) - x1) 2048) - 32) ((iRem ((-1) - x1) 2048) - 1))) ∧ (iDiv ((-1) - x1) 2048 < 32 → 0 ≤ iDiv ((-1) - x1) 2048 ∧ iDiv ((-1) - x1) 2048 < 20 ∧ Q (.inl none) (u2 B 49 (iDiv ((-1) - x1) 2048) ((iRem ((-1) - x1) 2048) - 1)))
theorem r_restored_0_ok {m : Nat} {h0 : qH} {d : Nat} {x1 : Int} {B : qB} {Q : qO → qB → Prop} (hm : m + 100 < 1000000000) (w : r_restored_0 m h0 d x1 B Q) : qZ m h0 (d + 1) k_restored 0 [some (.ref m), some (iv x1), none, none, none] [] B Q := by
  unfold r_restored_0 at w
  refine z_op (ck_at dt_restored 0 rfl) rfl (o_const _) ?_
  refine z_ldk (ok := q_isI) (n := 1) (ck_at dt_restored 1 rfl) rfl rfl (fun _ => rfl) rfl rfl ?_
  refine z_op (ck_at dt_restored 2 rfl) rfl o_isub ?_
  refine z_st1 (ok := q_isI) (n := 2) (L' := [some (.ref m), some (iv x1), some (iv ((-1) - x1)), none, none]) (ck_at dt_restored 3 rfl) rfl (fun _ => rfl) (fun _ _ => rfl) rfl nl_restored (by decide) rfl rfl ?_
  refine z_ldk (ok := q_isI) (n := 2) (ck_at dt_restored 4 rfl) rfl rfl (fun _ => rfl) rfl rfl ?_
  refine z_op (ck_at dt_restored 5 rfl) rfl (o_sipush _ (by decide)) ?_
  refine z_op (ck_at dt_restored 6 rfl) rfl (o_idiv ⟨by decide, by decide⟩ (by decide)) ?_
  refine z_st1 (ok := q_isI) (n := 3) (L' := [some (.ref m), some (iv x1), some (iv ((-1) - x1)), some (iv (iDiv ((-1) - x1) 2048)), none]) (ck_at dt_restored 7 rfl) rfl (fun _ => rfl) (fun _ _ => rfl) rfl nl_restored (by decide) rfl rfl ?_
  refine z_ldk (ok := q_isI) (n := 2) (ck_at dt_restored 8 rfl) rfl rfl (fun _ => rfl) rfl rfl ?_
  refine z_op (ck_at dt_restored 9 rfl) rfl (o_sipush _ (by decide)) ?_
  refine z_op (ck_at dt_restored 10 rfl) rfl (o_irem ⟨by decide, by decide⟩ (by decide)) ?_
  refine z_op (ck_at dt_restored 11 rfl) rfl (o_const _) ?_
  refine z_op (ck_at dt_restored 12 rfl) rfl o_isub ?_
  refine z_st1 (ok := q_isI) (n := 4) (L' := [some (.ref m), some (iv x1), some (iv ((-1) - x1)), some (iv (iDiv ((-1) - x1) 2048)), some (iv ((iRem ((-1) - x1) 2048) - 1))]) (ck_at dt_restored 13 rfl) rfl (fun _ => rfl) (fun _ _ => rfl) rfl nl_restored (by decide) rfl rfl ?_
  refine z_ldk (ok := q_isI) (n := 3) (ck_at dt_restored 14 rfl) rfl rfl (fun _ => rfl) rfl rfl ?_
  refine z_op (ck_at dt_restored 15 rfl) rfl (o_bipush _ (by decide)) ?_
  refine z_icmp (t := 36) (ck_at dt_restored 16 rfl) rfl (R32_i _) ⟨by decide, by decide⟩ ?_ ?_
  · intro q; have w := w.1 q
    obtain ⟨p1, p2, w⟩ := w
    refine z_ldk (ok := q_isA) (n := 0) (ck_at dt_restored 23 rfl) rfl rfl (fun _ => rfl) rfl rfl ?_
    refine z_getR (j := 51) (a := 34) (ck_at dt_restored 24 rfl) own_restored (mf_at 35 rfl) (by decide) rfl rfl ?_
    refine z_ldk (ok := q_isI) (n := 3) (ck_at dt_restored 25 rfl) rfl rfl (fun _ => rfl) rfl rfl ?_
    refine z_op (ck_at dt_restored 26 rfl) rfl (o_bipush _ (by decide)) ?_
    refine z_op (ck_at dt_restored 27 rfl) rfl o_isub ?_
    refine z_ldk (ok := q_isI) (n := 4) (ck_at dt_restored 28 rfl) rfl rfl (fun _ => rfl) rfl rfl ?_
    refine z_iast (j := 51) (n := 800) hm (ck_at dt_restored 29 rfl) rfl rfl rfl p1 p2 ?_
    exact z_ret0 (ck_at dt_restored 30 rfl) rt_restored w
  · intro q; have w := w.2 q
    obtain ⟨p3, p4, w⟩ := w
    refine z_ldk (ok := q_isA) (n := 0) (ck_at dt_restored 17 rfl) rfl rfl (fun _ => rfl) rfl rfl ?_
    refine z_getR (j := 49) (a := 32) (ck_at dt_restored 18 rfl) own_restored (mf_at 33 rfl) (by decide) rfl rfl ?_
    refine z_ldk (ok := q_isI) (n := 3) (ck_at dt_restored 19 rfl) rfl rfl (fun _ => rfl) rfl rfl ?_
    refine z_ldk (ok := q_isI) (n := 4) (ck_at dt_restored 20 rfl) rfl rfl (fun _ => rfl) rfl rfl ?_
    refine z_iast (j := 49) (n := 20) hm (ck_at dt_restored 21 rfl) rfl rfl rfl p3 p4 ?_
    refine z_goto (t := 47) (ck_at dt_restored 22 rfl) rfl ?_
    exact z_ret0 (ck_at dt_restored 30 rfl) rt_restored w
/-! say(I)V -/
def t_say : List (Nat × Instr × Nat) := [(0, .aload_n 0, 1), (1, .getfield 407, 3), (4, .sipush 1000, 3), (7, .if_icmp .ne 11, 3), (10, .aload_n 0, 1), (11, .iconst 1, 1), (12, .putfield 410, 3), (15, .goto 23, 3), (18, .aload_n 0, 1), (19, .getfield 153, 3), (22, .aload_n 0, 1), (23, .getfield 407, 3), (26, .iload_n 1, 1), (27, .iastore, 1), (28, .aload_n 0, 1), (29, .dup, 1), (30, .getfield 407, 3), (33, .iconst 1, 1), (34, .iadd, 1), (35, .putfield 407, 3), (38, .return_, 1)]
set_option maxRecDepth 100000 in
theorem dt_say : q_ck k_say t_say = true := by decide +kernel
def r_say_0 (m : Nat) (h0 : qH) (d : Nat) (x1 : Int) (B : qB) (Q : qO → qB → Prop) : Prop := R32 (B 74 0) ∧ (¬ B 74 0 = 1000 → 0 ≤ B 74 0 ∧ B 74 0 < 1000 ∧ Q (.inl none) (u2 (u2 B 73 (B 74 0) x1) 74 0 ((B 74 0) + 1))) ∧ (B 74 0 = 1000 → Q (.inl none) (u2 B 75 0 1))
theorem r_say_0_ok {m : Nat} {h0 : qH} {d : Nat} {x1 : Int} {B : qB} {Q : qO → qB → Prop} (hm : m + 100 < 1000000000) (w : r_say_0 m h0 d x1 B Q) : qZ m h0 (d + 1) k_say 0 [some (.ref m), some (iv x1)] [] B Q := by
  unfold r_say_0 at w
  obtain ⟨p1, w⟩ := w
  refine z_ldk (ok := q_isA) (n := 0) (ck_at dt_say 0 rfl) rfl rfl (fun _ => rfl) rfl rfl ?_
  refine z_getI (j := 74) (ck_at dt_say 1 rfl) own_say (mf_at 74 rfl) (by decide) rfl ?_
  refine z_op (ck_at dt_say 2 rfl) rfl (o_sipush _ (by decide)) ?_
  refine z_icmp (t := 18) (ck_at dt_say 3 rfl) rfl p1 ⟨by decide, by decide⟩ ?_ ?_
  · intro q; have w := w.1 q
    obtain ⟨p2, p3, w⟩ := w
    refine z_ldk (ok := q_isA) (n := 0) (ck_at dt_say 8 rfl) rfl rfl (fun _ => rfl) rfl rfl ?_
    refine z_getR (j := 73) (a := 45) (ck_at dt_say 9 rfl) own_say (mf_at 46 rfl) (by decide) rfl rfl ?_
    refine z_ldk (ok := q_isA) (n := 0) (ck_at dt_say 10 rfl) rfl rfl (fun _ => rfl) rfl rfl ?_
    refine z_getI (j := 74) (ck_at dt_say 11 rfl) own_say (mf_at 74 rfl) (by decide) rfl ?_
    refine z_ldk (ok := q_isI) (n := 1) (ck_at dt_say 12 rfl) rfl rfl (fun _ => rfl) rfl rfl ?_
    refine z_iast (j := 73) (n := 1000) hm (ck_at dt_say 13 rfl) rfl rfl rfl p2 p3 ?_
    refine z_ldk (ok := q_isA) (n := 0) (ck_at dt_say 14 rfl) rfl rfl (fun _ => rfl) rfl rfl ?_
    refine z_op (ck_at dt_say 15 rfl) rfl rfl ?_
    refine z_getI (j := 74) (ck_at dt_say 16 rfl) own_say (mf_at 74 rfl) (by decide) rfl ?_
    refine z_op (ck_at dt_say 17 rfl) rfl (o_const _) ?_
    refine z_op (ck_at dt_say 18 rfl) rfl o_iadd ?_
    refine z_putI (j := 74) hm (ck_at dt_say 19 rfl) own_say (mf_at 74 rfl) (by decide) rfl rfl rfl ?_
    exact z_ret0 (ck_at dt_say 20 rfl) rt_say w
  · intro q; have w := w.2 q
    refine z_ldk (ok := q_isA) (n := 0) (ck_at dt_say 4 rfl) rfl rfl (fun _ => rfl) rfl rfl ?_
    refine z_op (ck_at dt_say 5 rfl) rfl (o_const _) ?_
    refine z_putZ (j := 75) hm (ck_at dt_say 6 rfl) own_say (mf_at 75 rfl) (by decide) rfl rfl rfl (by decide) ?_
    refine z_goto (t := 38) (ck_at dt_say 7 rfl) rfl ?_
    exact z_ret0 (ck_at dt_say 20 rfl) rt_say w
/-! text(I)I -/
def t_text : List (Nat × Instr × Nat) := [(0, .aload_n 0, 1), (1, .invokevirtual 277, 3), (4, .iload_n 1, 1), (5, .iconst 0, 1), (6, .iconst 3, 1), (7, .invokestatic 170, 3), (10, .ifCond .ne 9, 3), (13, .aload_n 0, 1), (14, .iconst 1, 1), (15, .invokevirtual 162, 3), (18, .ireturn, 1), (19, .aload_n 0, 1), (20, .getfield 174, 3), (23, .sipush 1000, 3), (26, .if_icmp .le 9, 3), (29, .aload_n 0, 1), (30, .iconst 2, 1), (31, .invokevirtual 162, 3), (34, .ireturn, 1), (35, .aload_n 0, 1), (36, .iconst 0, 1), (37, .putfield 156, 3), (40, .iconst 0, 1), (41, .istore_n 2, 1), (42, .iload_n 2, 1), (43, .aload_n 0, 1), (44, .getfield 174, 3), (47, .if_icmp .ge 27, 3), (50, .aload_n 0, 1), (51, .getfield 20, 3), (54, .sipush 1000, 3), (57, .iload_n 1, 1), (58, .imul, 1), (59, .iload_n 2, 1), (60, .iadd, 1), (61, .aload_n 0, 1), (62, .getfield 47, 3), (65, .iload_n 2, 1), (66, .iaload, 1), (67, .iastore, 1), (68, .iinc 2 1, 3), (71, .goto (-29), 3), (74, .aload_n 0, 1), (75, .getfield 32, 3), (78, .iload_n 1, 1), (79, .aload_n 0, 1), (80, .getfield 174, 3), (83, .iastore, 1), (84, .aload_n 0, 1), (85, .getfield 174, 3), (88, .ireturn, 1)]
set_option maxRecDepth 100000 in
theorem dt_text : q_ck k_text t_text = true := by decide +kernel
def r_text_42 (m : Nat) (h0 : qH) (d : Nat) (x1 x2 : Int) (B : qB) (Q : qO → qB → Prop) : Prop := R32 x2 ∧ R32 (B 16 0) ∧ (x2 ≥ B 16 0 → 0 ≤ x1 ∧ x1 < 4 ∧ Q (.inl (some (iv (B 16 0)))) (u2 B 9 x1 (B 16 0))) ∧ (x2 < B 16 0 → 0 ≤ x2 ∧ x2 < 1200 ∧ 0 ≤ (1000 * x1) + x2 ∧ (1000 * x1) + x2 < 4000 ∧ qZ m h0 (d + 1) k_text 42 [some (.ref m), some (iv x1), some (iv (x2 + 1))] [] (u2 B 5 ((1000 * x1) + x2) (B 15 x2)) Q)
theorem r_text_42_ok {m : Nat} {h0 : qH} {d : Nat} {x1 x2 : Int} {B : qB} {Q : qO → qB → Prop} (hm : m + 100 < 1000000000) (w : r_text_42 m h0 d x1 x2 B Q) : qZ m h0 (d + 1) k_text 42 [some (.ref m), some (iv x1), some (iv x2)] [] B Q := by
  unfold r_text_42 at w
  obtain ⟨p1, p2, w⟩ := w
  refine z_ldk (ok := q_isI) (n := 2) (ck_at dt_text 24 rfl) rfl rfl (fun _ => rfl) rfl rfl ?_
  refine z_ldk (ok := q_isA) (n := 0) (ck_at dt_text 25 rfl) rfl rfl (fun _ => rfl) rfl rfl ?_
  refine z_getI (j := 16) (ck_at dt_text 26 rfl) own_text (mf_at 49 rfl) (by decide) rfl ?_
  refine z_icmp (t := 74) (ck_at dt_text 27 rfl) rfl p1 p2 ?_ ?_
  · intro q; have w := w.1 q
    obtain ⟨p3, p4, w⟩ := w
    refine z_ldk (ok := q_isA) (n := 0) (ck_at dt_text 42 rfl) rfl rfl (fun _ => rfl) rfl rfl ?_
    refine z_getR (j := 9) (a := 6) (ck_at dt_text 43 rfl) own_text (mf_at 7 rfl) (by decide) rfl rfl ?_
    refine z_ldk (ok := q_isI) (n := 1) (ck_at dt_text 44 rfl) rfl rfl (fun _ => rfl) rfl rfl ?_
    refine z_ldk (ok := q_isA) (n := 0) (ck_at dt_text 45 rfl) rfl rfl (fun _ => rfl) rfl rfl ?_
    refine z_getI (j := 16) (ck_at dt_text 46 rfl) own_text (mf_at 49 rfl) (by decide) rfl ?_
    refine z_iast (j := 9) (n := 4) hm (ck_at dt_text 47 rfl) rfl rfl rfl p3 p4 ?_
    refine z_ldk (ok := q_isA) (n := 0) (ck_at dt_text 48 rfl) rfl rfl (fun _ => rfl) rfl rfl ?_
    refine z_getI (j := 16) (ck_at dt_text 49 rfl) own_text (mf_at 49 rfl) (by decide) rfl ?_
    exact z_retI (ck_at dt_text 50 rfl) rt_text w
  · intro q; have w := w.2 q
    obtain ⟨p5, p6, p7, p8, w⟩ := w
    refine z_ldk (ok := q_isA) (n := 0) (ck_at dt_text 28 rfl) rfl rfl (fun _ => rfl) rfl rfl ?_
    refine z_getR (j := 5) (a := 2) (ck_at dt_text 29 rfl) own_text (mf_at 3 rfl) (by decide) rfl rfl ?_
    refine z_op (ck_at dt_text 30 rfl) rfl (o_sipush _ (by decide)) ?_
    refine z_ldk (ok := q_isI) (n := 1) (ck_at dt_text 31 rfl) rfl rfl (fun _ => rfl) rfl rfl ?_
    refine z_op (ck_at dt_text 32 rfl) rfl o_imul ?_
    refine z_ldk (ok := q_isI) (n := 2) (ck_at dt_text 33 rfl) rfl rfl (fun _ => rfl) rfl rfl ?_
    refine z_op (ck_at dt_text 34 rfl) rfl o_iadd ?_
    refine z_ldk (ok := q_isA) (n := 0) (ck_at dt_text 35 rfl) rfl rfl (fun _ => rfl) rfl rfl ?_
    refine z_getR (j := 15) (a := 11) (ck_at dt_text 36 rfl) own_text (mf_at 12 rfl) (by decide) rfl rfl ?_
    refine z_ldk (ok := q_isI) (n := 2) (ck_at dt_text 37 rfl) rfl rfl (fun _ => rfl) rfl rfl ?_
    refine z_iald (j := 15) (n := 1200) (ck_at dt_text 38 rfl) rfl rfl rfl p5 p6 ?_
    refine z_iast (j := 5) (n := 4000) hm (ck_at dt_text 39 rfl) rfl rfl rfl p7 p8 ?_
    refine z_iinc (n := 2) (L' := [some (.ref m), some (iv x1), some (iv (x2 + 1))]) (ck_at dt_text 40 rfl) rfl nl_text (by decide) rfl rfl ?_
    refine z_goto (t := 42) (ck_at dt_text 41 rfl) rfl ?_
    exact z_wk w ⟨rfl, ⟨rfl, ⟨rfl, trivial⟩⟩⟩
def r_text_34 (m : Nat) (h0 : qH) (d : Nat) (s0 : Int) (B : qB) (Q : qO → qB → Prop) : Prop := Q (.inl (some (iv s0))) B
theorem r_text_34_ok {m : Nat} {h0 : qH} {d : Nat} {s0 : Int} {B : qB} {Q : qO → qB → Prop} (hm : m + 100 < 1000000000) (w : r_text_34 m h0 d s0 B Q) : qZ m h0 (d + 1) k_text 34 [none, none, none] [iv s0] B Q := by
  unfold r_text_34 at w
  exact z_retI (ck_at dt_text 18 rfl) rt_text w
def r_text_18 (m : Nat) (h0 : qH) (d : Nat) (s0 : Int) (B : qB) (Q : qO → qB → Prop) : Prop := Q (.inl (some (iv s0))) B
theorem r_text_18_ok {m : Nat} {h0 : qH} {d : Nat} {s0 : Int} {B : qB} {Q : qO → qB → Prop} (hm : m + 100 < 1000000000) (w : r_text_18 m h0 d s0 B Q) : qZ m h0 (d + 1) k_text 18 [none, none, none] [iv s0] B Q := by
  unfold r_text_18 at w
  exact z_retI (ck_at dt_text 10 rfl) rt_text w
def r_text_10 (m : Nat) (h0 : qH) (d : Nat) (x1 s0 : Int) (B : qB) (Q : qO → qB → Prop) : Prop := R32 s0 ∧ (¬ s0 = 0 → R32 (B 16 0) ∧ (B 16 0 ≤ 1000 → qZ m h0 (d + 1) k_text 42 [some (.ref m), some (iv x1), some (iv 0)] [] (u2 B 0 0 0) Q) ∧ (B 16 0 > 1000 → qZ m h0 d k_refuse 0 [some (.ref m), some (iv 2)] [] B (fun o B' => ∃ v : Int, o = .inl (some (iv v)) ∧ r_text_34 m h0 d v B' Q))) ∧ (s0 = 0 → qZ m h0 d k_refuse 0 [some (.ref m), some (iv 1)] [] B (fun o B' => ∃ v : Int, o = .inl (some (iv v)) ∧ r_text_18 m h0 d v B' Q))
theorem r_text_10_ok {m : Nat} {h0 : qH} {d : Nat} {x1 s0 : Int} {B : qB} {Q : qO → qB → Prop} (hm : m + 100 < 1000000000) (w : r_text_10 m h0 d x1 s0 B Q) : qZ m h0 (d + 1) k_text 10 [some (.ref m), some (iv x1), none] [iv s0] B Q := by
  unfold r_text_10 at w
  obtain ⟨p1, w⟩ := w
  refine z_ifz (t := 19) (ck_at dt_text 6 rfl) rfl p1 ?_ ?_
  · intro q; have w := w.1 q
    obtain ⟨p2, w⟩ := w
    refine z_ldk (ok := q_isA) (n := 0) (ck_at dt_text 11 rfl) rfl rfl (fun _ => rfl) rfl rfl ?_
    refine z_getI (j := 16) (ck_at dt_text 12 rfl) own_text (mf_at 49 rfl) (by decide) rfl ?_
    refine z_op (ck_at dt_text 13 rfl) rfl (o_sipush _ (by decide)) ?_
    refine z_icmp (t := 35) (ck_at dt_text 14 rfl) rfl p2 ⟨by decide, by decide⟩ ?_ ?_
    · intro q; have w := w.1 q
      refine z_ldk (ok := q_isA) (n := 0) (ck_at dt_text 19 rfl) rfl rfl (fun _ => rfl) rfl rfl ?_
      refine z_op (ck_at dt_text 20 rfl) rfl (o_const _) ?_
      refine z_putI (j := 0) hm (ck_at dt_text 21 rfl) own_text (mf_at 47 rfl) (by decide) rfl rfl rfl ?_
      refine z_op (ck_at dt_text 22 rfl) rfl (o_const _) ?_
      refine z_st1 (ok := q_isI) (n := 2) (L' := [some (.ref m), some (iv x1), some (iv 0)]) (ck_at dt_text 23 rfl) rfl (fun _ => rfl) (fun _ _ => rfl) rfl nl_text (by decide) rfl rfl ?_
      exact z_wk w ⟨rfl, ⟨rfl, ⟨rfl, trivial⟩⟩⟩
    · intro q; have w := w.2 q
      refine z_ldk (ok := q_isA) (n := 0) (ck_at dt_text 15 rfl) rfl rfl (fun _ => rfl) rfl rfl ?_
      refine z_op (ck_at dt_text 16 rfl) rfl (o_const _) ?_
      refine z_virt (k' := k_refuse) (n := 0) (as := [iv 2]) (r := []) (ck_at dt_text 17 rfl) own_text (mm_at 0 rfl) vk_refuse rfl nl_refuse rfl rfl rfl rfl ?_
      exact w.mono (Nat.le_refl _) (fun o B' ⟨v, ho, w⟩ => ⟨some (iv v), ho, z_wk (r_text_34_ok hm w) trivial⟩)
  · intro q; have w := w.2 q
    refine z_ldk (ok := q_isA) (n := 0) (ck_at dt_text 7 rfl) rfl rfl (fun _ => rfl) rfl rfl ?_
    refine z_op (ck_at dt_text 8 rfl) rfl (o_const _) ?_
    refine z_virt (k' := k_refuse) (n := 0) (as := [iv 1]) (r := []) (ck_at dt_text 9 rfl) own_text (mm_at 0 rfl) vk_refuse rfl nl_refuse rfl rfl rfl rfl ?_
    exact w.mono (Nat.le_refl _) (fun o B' ⟨v, ho, w⟩ => ⟨some (iv v), ho, z_wk (r_text_18_ok hm w) trivial⟩)
def r_text_4 (m : Nat) (h0 : qH) (d : Nat) (x1 : Int) (B : qB) (Q : qO → qB → Prop) : Prop := qZ m h0 d k_in 0 [some (iv x1), some (iv 0), some (iv 3)] [] B (fun o B' => ∃ v : Int, o = .inl (some (iv v)) ∧ r_text_10 m h0 d x1 v B' Q)
theorem r_text_4_ok {m : Nat} {h0 : qH} {d : Nat} {x1 : Int} {B : qB} {Q : qO → qB → Prop} (hm : m + 100 < 1000000000) (w : r_text_4 m h0 d x1 B Q) : qZ m h0 (d + 1) k_text 4 [some (.ref m), some (iv x1), none] [] B Q := by
  unfold r_text_4 at w
  refine z_ldk (ok := q_isI) (n := 1) (ck_at dt_text 2 rfl) rfl rfl (fun _ => rfl) rfl rfl ?_
  refine z_op (ck_at dt_text 3 rfl) rfl (o_const _) ?_
  refine z_op (ck_at dt_text 4 rfl) rfl (o_const _) ?_
  refine z_stat (k' := k_in) (n := 0) (as := [iv x1, iv 0, iv 3]) (r := []) (ck_at dt_text 5 rfl) own_text (mm_at 2 rfl) (ms_at 0 rfl) vk_in rfl nl_in rfl rfl rfl rfl ?_
  exact w.mono (Nat.le_refl _) (fun o B' ⟨v, ho, w⟩ => ⟨some (iv v), ho, z_wk (r_text_10_ok hm w) ⟨rfl, ⟨rfl, trivial⟩⟩⟩)
def r_text_0 (m : Nat) (h0 : qH) (d : Nat) (x1 : Int) (B : qB) (Q : qO → qB → Prop) : Prop := qZ m h0 d k_take 0 [some (.ref m), none] [] B (fun o B' => o = .inl none ∧ r_text_4 m h0 d x1 B' Q)
theorem r_text_0_ok {m : Nat} {h0 : qH} {d : Nat} {x1 : Int} {B : qB} {Q : qO → qB → Prop} (hm : m + 100 < 1000000000) (w : r_text_0 m h0 d x1 B Q) : qZ m h0 (d + 1) k_text 0 [some (.ref m), some (iv x1), none] [] B Q := by
  unfold r_text_0 at w
  refine z_ldk (ok := q_isA) (n := 0) (ck_at dt_text 0 rfl) rfl rfl (fun _ => rfl) rfl rfl ?_
  refine z_virt (k' := k_take) (n := 1) (as := []) (r := []) (ck_at dt_text 1 rfl) own_text (mm_at 3 rfl) vk_take rfl nl_take rfl rfl rfl rfl ?_
  exact w.mono (Nat.le_refl _) (fun o B' ⟨ho, w⟩ => ⟨none, ho, z_wk (r_text_4_ok hm w) ⟨rfl, ⟨rfl, trivial⟩⟩⟩)
/-! word(II)J -/
def t_word : List (Nat × Instr × Nat) := [(0, .iload_n 1, 1), (1, .iconst 0, 1), (2, .iconst 3, 1), (3, .invokestatic 170, 3), (6, .ifCond .ne 10, 3), (9, .aload_n 0, 1), (10, .iconst 1, 1), (11, .invokevirtual 162, 3), (14, .i2l, 1), (15, .lreturn, 1), (16, .iload_n 2, 1), (17, .iconst 0, 1), (18, .aload_n 0, 1), (19, .getfield 32, 3), (22, .iload_n 1, 1), (23, .iaload, 1), (24, .iconst 1, 1), (25, .isub, 1), (26, .invokestatic 170, 3), (29, .ifCond .ne 10, 3), (32, .aload_n 0, 1), (33, .iconst 2, 1), (34, .invokevirtual 162, 3), (37, .i2l, 1), (38, .lreturn, 1), (39, .aload_n 0, 1), (40, .iconst 0, 1), (41, .putfield 156, 3), (44, .lconst 0, 1), (45, .lstore_n 3, 1), (46, .iload_n 2, 1), (47, .istore 5, 2), (49, .iload 5, 2), (51, .iload_n 2, 1), (52, .bipush 8, 2), (54, .iadd, 1), (55, .if_icmp .ge 44, 3), (58, .lload_n 3, 1), (59, .bipush 8, 2), (61, .lshl, 1), (62, .iload 5, 2), (64, .aload_n 0, 1), (65, .getfield 32, 3), (68, .iload_n 1, 1), (69, .iaload, 1), (70, .if_icmp .ge 19, 3), (73, .aload_n 0, 1), (74, .getfield 20, 3), (77, .sipush 1000, 3), (80, .iload_n 1, 1), (81, .imul, 1), (82, .iload 5, 2), (84, .iadd, 1), (85, .iaload, 1), (86, .goto 4, 3), (89, .iconst 0, 1), (90, .i2l, 1), (91, .lor, 1), (92, .lstore_n 3, 1), (93, .iinc 5 1, 3), (96, .goto (-47), 3), (99, .lload_n 3, 1), (100, .lreturn, 1)]
set_option maxRecDepth 100000 in
theorem dt_word : q_ck k_word t_word = true := by decide +kernel
def r_word_90 (m : Nat) (h0 : qH) (d : Nat) (x1 x2 x5 s0 s1 : Int) (B : qB) (Q : qO → qB → Prop) : Prop := R32 s1 ∧ qZ m h0 (d + 1) k_word 49 [some (.ref m), some (iv x1), some (iv x2), some (wv (lOr s0 s1)), none, some (iv (x5 + 1))] [] B Q
theorem r_word_90_ok {m : Nat} {h0 : qH} {d : Nat} {x1 x2 x5 s0 s1 : Int} {B : qB} {Q : qO → qB → Prop} (hm : m + 100 < 1000000000) (w : r_word_90 m h0 d x1 x2 x5 s0 s1 B Q) : qZ m h0 (d + 1) k_word 90 [some (.ref m), some (iv x1), some (iv x2), none, none, some (iv x5)] [iv s1, wv s0] B Q := by
  unfold r_word_90 at w
  obtain ⟨p1, w⟩ := w
  refine z_op (ck_at dt_word 56 rfl) rfl (o_i2l p1) ?_
  refine z_op (ck_at dt_word 57 rfl) rfl o_lor ?_
  refine z_st2 (n := 3) (L' := [some (.ref m), some (iv x1), some (iv x2), some (wv (lOr s0 s1)), none, some (iv x5)]) (ck_at dt_word 58 rfl) rfl (fun _ => rfl) (fun _ _ => rfl) rfl nl_word (by decide) rfl rfl ?_
  refine z_iinc (n := 5) (L' := [some (.ref m), some (iv x1), some (iv x2), some (wv (lOr s0 s1)), none, some (iv (x5 + 1))]) (ck_at dt_word 59 rfl) rfl nl_word (by decide) trivial rfl ?_
  refine z_goto (t := 49) (ck_at dt_word 60 rfl) rfl ?_
  exact z_wk w ⟨rfl, ⟨rfl, ⟨rfl, ⟨rfl, ⟨rfl, trivial⟩⟩⟩⟩⟩
def r_word_49 (m : Nat) (h0 : qH) (d : Nat) (x1 x2 x3 x5 : Int) (B : qB) (Q : qO → qB → Prop) : Prop := R32 x5 ∧ R32 (x2 + 8) ∧ (x5 ≥ x2 + 8 → Q (.inl (some (wv x3))) B) ∧ (x5 < x2 + 8 → 0 ≤ x1 ∧ x1 < 4 ∧ R32 (B 9 x1) ∧ (x5 ≥ B 9 x1 → r_word_90 m h0 d x1 x2 x5 (lShl x3 8) 0 B Q) ∧ (x5 < B 9 x1 → 0 ≤ (1000 * x1) + x5 ∧ (1000 * x1) + x5 < 4000 ∧ r_word_90 m h0 d x1 x2 x5 (lShl x3 8) (B 5 ((1000 * x1) + x5)) B Q))
theorem r_word_49_ok {m : Nat} {h0 : qH} {d : Nat} {x1 x2 x3 x5 : Int} {B : qB} {Q : qO → qB → Prop} (hm : m + 100 < 1000000000) (w : r_word_49 m h0 d x1 x2 x3 x5 B Q) : qZ m h0 (d + 1) k_word 49 [some (.ref m), some (iv x1), some (iv x2), some (wv x3), none, some (iv x5)] [] B Q := by
  unfold r_word_49 at w
  obtain ⟨p1, p2, w⟩ := w
  refine z_ldk (ok := q_isI) (n := 5) (ck_at dt_word 32 rfl) rfl rfl (fun _ => rfl) rfl rfl ?_
  refine z_ldk (ok := q_isI) (n := 2) (ck_at dt_word 33 rfl) rfl rfl (fun _ => rfl) rfl rfl ?_
  refine z_op (ck_at dt_word 34 rfl) rfl (o_bipush _ (by decide)) ?_
  refine z_op (ck_at dt_word 35 rfl) rfl o_iadd ?_
  refine z_icmp (t := 99) (ck_at dt_word 36 rfl) rfl p1 p2 ?_ ?_
  · intro q; have w := w.1 q
    refine z_ldk (ok := q_isL) (n := 3) (ck_at dt_word 61 rfl) rfl rfl (fun _ => rfl) rfl rfl ?_
    exact z_retL (ck_at dt_word 62 rfl) rt_word w
  · intro q; have w := w.2 q
    obtain ⟨p3, p4, p5, w⟩ := w
    refine z_ldk (ok := q_isL) (n := 3) (ck_at dt_word 37 rfl) rfl rfl (fun _ => rfl) rfl rfl ?_
    refine z_op (ck_at dt_word 38 rfl) rfl (o_bipush _ (by decide)) ?_
    refine z_op (ck_at dt_word 39 rfl) rfl o_lshl ?_
    refine z_ldk (ok := q_isI) (n := 5) (ck_at dt_word 40 rfl) rfl rfl (fun _ => rfl) rfl rfl ?_
    refine z_ldk (ok := q_isA) (n := 0) (ck_at dt_word 41 rfl) rfl rfl (fun _ => rfl) rfl rfl ?_
    refine z_getR (j := 9) (a := 6) (ck_at dt_word 42 rfl) own_word (mf_at 7 rfl) (by decide) rfl rfl ?_
    refine z_ldk (ok := q_isI) (n := 1) (ck_at dt_word 43 rfl) rfl rfl (fun _ => rfl) rfl rfl ?_
    refine z_iald (j := 9) (n := 4) (ck_at dt_word 44 rfl) rfl rfl rfl p3 p4 ?_
    refine z_icmp (t := 89) (ck_at dt_word 45 rfl) rfl p1 p5 ?_ ?_
    · intro q; have w := w.1 q
      refine z_op (ck_at dt_word 55 rfl) rfl (o_const _) ?_
      exact z_wk (r_word_90_ok hm w) ⟨rfl, ⟨rfl, ⟨rfl, ⟨rfl, trivial⟩⟩⟩⟩
    · intro q; have w := w.2 q
      obtain ⟨p6, p7, w⟩ := w
      refine z_ldk (ok := q_isA) (n := 0) (ck_at dt_word 46 rfl) rfl rfl (fun _ => rfl) rfl rfl ?_
      refine z_getR (j := 5) (a := 2) (ck_at dt_word 47 rfl) own_word (mf_at 3 rfl) (by decide) rfl rfl ?_
      refine z_op (ck_at dt_word 48 rfl) rfl (o_sipush _ (by decide)) ?_
      refine z_ldk (ok := q_isI) (n := 1) (ck_at dt_word 49 rfl) rfl rfl (fun _ => rfl) rfl rfl ?_
      refine z_op (ck_at dt_word 50 rfl) rfl o_imul ?_
      refine z_ldk (ok := q_isI) (n := 5) (ck_at dt_word 51 rfl) rfl rfl (fun _ => rfl) rfl rfl ?_
      refine z_op (ck_at dt_word 52 rfl) rfl o_iadd ?_
      refine z_iald (j := 5) (n := 4000) (ck_at dt_word 53 rfl) rfl rfl rfl p6 p7 ?_
      refine z_goto (t := 90) (ck_at dt_word 54 rfl) rfl ?_
      exact z_wk (r_word_90_ok hm w) ⟨rfl, ⟨rfl, ⟨rfl, ⟨rfl, trivial⟩⟩⟩⟩
def r_word_37 (m : Nat) (h0 : qH) (d : Nat) (s0 : Int) (B : qB) (Q : qO → qB → Prop) : Prop := R32 s0 ∧ Q (.inl (some (wv s0))) B
theorem r_word_37_ok {m : Nat} {h0 : qH} {d : Nat} {s0 : Int} {B : qB} {Q : qO → qB → Prop} (hm : m + 100 < 1000000000) (w : r_word_37 m h0 d s0 B Q) : qZ m h0 (d + 1) k_word 37 [none, none, none, none, none, none] [iv s0] B Q := by
  unfold r_word_37 at w
  obtain ⟨p1, w⟩ := w
  refine z_op (ck_at dt_word 23 rfl) rfl (o_i2l p1) ?_
  exact z_retL (ck_at dt_word 24 rfl) rt_word w
def r_word_29 (m : Nat) (h0 : qH) (d : Nat) (x1 x2 s0 : Int) (B : qB) (Q : qO → qB → Prop) : Prop := R32 s0 ∧ (¬ s0 = 0 → qZ m h0 (d + 1) k_word 49 [some (.ref m), some (iv x1), some (iv x2), some (wv 0), none, some (iv x2)] [] (u2 B 0 0 0) Q) ∧ (s0 = 0 → qZ m h0 d k_refuse 0 [some (.ref m), some (iv 2)] [] B (fun o B' => ∃ v : Int, o = .inl (some (iv v)) ∧ r_word_37 m h0 d v B' Q))
theorem r_word_29_ok {m : Nat} {h0 : qH} {d : Nat} {x1 x2 s0 : Int} {B : qB} {Q : qO → qB → Prop} (hm : m + 100 < 1000000000) (w : r_word_29 m h0 d x1 x2 s0 B Q) : qZ m h0 (d + 1) k_word 29 [some (.ref m), some (iv x1), some (iv x2), none, none, none] [iv s0] B Q := by
  unfold r_word_29 at w
  obtain ⟨p1, w⟩ := w
  refine z_ifz (t := 39) (ck_at dt_word 19 rfl) rfl p1 ?_ ?_
  · intro q; have w := w.1 q
    refine z_ldk (ok := q_isA) (n := 0) (ck_at dt_word 25 rfl) rfl rfl (fun _ => rfl) rfl rfl ?_
    refine z_op (ck_at dt_word 26 rfl) rfl (o_const _) ?_
    refine z_putI (j := 0) hm (ck_at dt_word 27 rfl) own_word (mf_at 47 rfl) (by decide) rfl rfl rfl ?_
    refine z_op (ck_at dt_word 28 rfl) rfl o_lconst0 ?_
    refine z_st2 (n := 3) (L' := [some (.ref m), some (iv x1), some (iv x2), some (wv 0), none, none]) (ck_at dt_word 29 rfl) rfl (fun _ => rfl) (fun _ _ => rfl) rfl nl_word (by decide) rfl rfl ?_
    refine z_ldk (ok := q_isI) (n := 2) (ck_at dt_word 30 rfl) rfl rfl (fun _ => rfl) rfl rfl ?_
    refine z_st1 (ok := q_isI) (n := 5) (L' := [some (.ref m), some (iv x1), some (iv x2), some (wv 0), none, some (iv x2)]) (ck_at dt_word 31 rfl) rfl (fun _ => rfl) (fun _ _ => rfl) rfl nl_word (by decide) trivial rfl ?_
    exact z_wk w ⟨rfl, ⟨rfl, ⟨rfl, ⟨rfl, ⟨rfl, trivial⟩⟩⟩⟩⟩
  · intro q; have w := w.2 q
    refine z_ldk (ok := q_isA) (n := 0) (ck_at dt_word 20 rfl) rfl rfl (fun _ => rfl) rfl rfl ?_
    refine z_op (ck_at dt_word 21 rfl) rfl (o_const _) ?_
    refine z_virt (k' := k_refuse) (n := 0) (as := [iv 2]) (r := []) (ck_at dt_word 22 rfl) own_word (mm_at 0 rfl) vk_refuse rfl nl_refuse rfl rfl rfl rfl ?_
    exact w.mono (Nat.le_refl _) (fun o B' ⟨v, ho, w⟩ => ⟨some (iv v), ho, z_wk (r_word_37_ok hm w) trivial⟩)
def r_word_14 (m : Nat) (h0 : qH) (d : Nat) (s0 : Int) (B : qB) (Q : qO → qB → Prop) : Prop := R32 s0 ∧ Q (.inl (some (wv s0))) B
theorem r_word_14_ok {m : Nat} {h0 : qH} {d : Nat} {s0 : Int} {B : qB} {Q : qO → qB → Prop} (hm : m + 100 < 1000000000) (w : r_word_14 m h0 d s0 B Q) : qZ m h0 (d + 1) k_word 14 [none, none, none, none, none, none] [iv s0] B Q := by
  unfold r_word_14 at w
  obtain ⟨p1, w⟩ := w
  refine z_op (ck_at dt_word 8 rfl) rfl (o_i2l p1) ?_
  exact z_retL (ck_at dt_word 9 rfl) rt_word w
def r_word_6 (m : Nat) (h0 : qH) (d : Nat) (x1 x2 s0 : Int) (B : qB) (Q : qO → qB → Prop) : Prop := R32 s0 ∧ (¬ s0 = 0 → 0 ≤ x1 ∧ x1 < 4 ∧ qZ m h0 d k_in 0 [some (iv x2), some (iv 0), some (iv ((B 9 x1) - 1))] [] B (fun o B' => ∃ v : Int, o = .inl (some (iv v)) ∧ r_word_29 m h0 d x1 x2 v B' Q)) ∧ (s0 = 0 → qZ m h0 d k_refuse 0 [some (.ref m), some (iv 1)] [] B (fun o B' => ∃ v : Int, o = .inl (some (iv v)) ∧ r_word_14 m h0 d v B' Q))
theorem r_word_6_ok {m : Nat} {h0 : qH} {d : Nat} {x1 x2 s0 : Int} {B : qB} {Q : qO → qB → Prop} (hm : m + 100 < 1000000000) (w : r_word_6 m h0 d x1 x2 s0 B Q) : qZ m h0 (d + 1) k_word 6 [some (.ref m), some (iv x1), some (iv x2), none, none, none] [iv s0] B Q := by
  unfold r_word_6 at w
  obtain ⟨p1, w⟩ := w
  refine z_ifz (t := 16) (ck_at dt_word 4 rfl) rfl p1 ?_ ?_
  · intro q; have w := w.1 q
    obtain ⟨p2, p3, w⟩ := w
    refine z_ldk (ok := q_isI) (n := 2) (ck_at dt_word 10 rfl) rfl rfl (fun _ => rfl) rfl rfl ?_
    refine z_op (ck_at dt_word 11 rfl) rfl (o_const _) ?_
    refine z_ldk (ok := q_isA) (n := 0) (ck_at dt_word 12 rfl) rfl rfl (fun _ => rfl) rfl rfl ?_
    refine z_getR (j := 9) (a := 6) (ck_at dt_word 13 rfl) own_word (mf_at 7 rfl) (by decide) rfl rfl ?_
    refine z_ldk (ok := q_isI) (n := 1) (ck_at dt_word 14 rfl) rfl rfl (fun _ => rfl) rfl rfl ?_
    refine z_iald (j := 9) (n := 4) (ck_at dt_word 15 rfl) rfl rfl rfl p2 p3 ?_
    refine z_op (ck_at dt_word 16 rfl) rfl (o_const _) ?_
    refine z_op (ck_at dt_word 17 rfl) rfl o_isub ?_
    refine z_stat (k' := k_in) (n := 0) (as := [iv x2, iv 0, iv ((B 9 x1) - 1)]) (r := []) (ck_at dt_word 18 rfl) own_word (mm_at 2 rfl) (ms_at 0 rfl) vk_in rfl nl_in rfl rfl rfl rfl ?_
    exact w.mono (Nat.le_refl _) (fun o B' ⟨v, ho, w⟩ => ⟨some (iv v), ho, z_wk (r_word_29_ok hm w) ⟨rfl, ⟨rfl, ⟨rfl, trivial⟩⟩⟩⟩)
  · intro q; have w := w.2 q
    refine z_ldk (ok := q_isA) (n := 0) (ck_at dt_word 5 rfl) rfl rfl (fun _ => rfl) rfl rfl ?_
    refine z_op (ck_at dt_word 6 rfl) rfl (o_const _) ?_
    refine z_virt (k' := k_refuse) (n := 0) (as := [iv 1]) (r := []) (ck_at dt_word 7 rfl) own_word (mm_at 0 rfl) vk_refuse rfl nl_refuse rfl rfl rfl rfl ?_
    exact w.mono (Nat.le_refl _) (fun o B' ⟨v, ho, w⟩ => ⟨some (iv v), ho, z_wk (r_word_14_ok hm w) trivial⟩)
def r_word_0 (m : Nat) (h0 : qH) (d : Nat) (x1 x2 : Int) (B : qB) (Q : qO → qB → Prop) : Prop := qZ m h0 d k_in 0 [some (iv x1), some (iv 0), some (iv 3)] [] B (fun o B' => ∃ v : Int, o = .inl (some (iv v)) ∧ r_word_6 m h0 d x1 x2 v B' Q)
theorem r_word_0_ok {m : Nat} {h0 : qH} {d : Nat} {x1 x2 : Int} {B : qB} {Q : qO → qB → Prop} (hm : m + 100 < 1000000000) (w : r_word_0 m h0 d x1 x2 B Q) : qZ m h0 (d + 1) k_word 0 [some (.ref m), some (iv x1), some (iv x2), none, none, none] [] B Q := by
  unfold r_word_0 at w
  refine z_ldk (ok := q_isI) (n := 1) (ck_at dt_word 0 rfl) rfl rfl (fun _ => rfl) rfl rfl ?_
  refine z_op (ck_at dt_word 1 rfl) rfl (o_const _) ?_
  refine z_op (ck_at dt_word 2 rfl) rfl (o_const _) ?_
  refine z_stat (k' := k_in) (n := 0) (as := [iv x1, iv 0, iv 3]) (r := []) (ck_at dt_word 3 rfl) own_word (mm_at 2 rfl) (ms_at 0 rfl) vk_in rfl nl_in rfl rfl rfl rfl ?_
  exact w.mono (Nat.le_refl _) (fun o B' ⟨v, ho, w⟩ => ⟨some (iv v), ho, z_wk (r_word_6_ok hm w) ⟨rfl, ⟨rfl, ⟨rfl, trivial⟩⟩⟩⟩)
/-! count(I)I -/
def t_count : List (Nat × Instr × Nat) := [(0, .iload_n 1, 1), (1, .iconst 0, 1), (2, .iconst 2, 1), (3, .invokestatic 170, 3), (6, .ifCond .ne 42, 3), (9, .iload_n 1, 1), (10, .bipush 10, 2), (12, .bipush 17, 2), (14, .invokestatic 170, 3), (17, .ifCond .ne 31, 3), (20, .iload_n 1, 1), (21, .bipush 20, 2), (23, .bipush 23, 2), (25, .invokestatic 170, 3), (28, .ifCond .ne 20, 3), (31, .iload_n 1, 1), (32, .bipush 30, 2), (34, .bipush 37, 2), (36, .invokestatic 170, 3), (39, .ifCond .ne 9, 3), (42, .aload_n 0, 1), (43, .iconst 1, 1), (44, .invokevirtual 162, 3), (47, .ireturn, 1), (48, .aload_n 0, 1), (49, .iconst 0, 1), (50, .putfield 156, 3), (53, .iload_n 1, 1), (54, .ifCond .ne 8, 3), (57, .aload_n 0, 1), (58, .getfield 159, 3), (61, .ireturn, 1), (62, .iload_n 1, 1), (63, .iconst 1, 1), (64, .if_icmp .ne 8, 3), (67, .aload_n 0, 1), (68, .getfield 13, 3), (71, .ireturn, 1), (72, .iload_n 1, 1), (73, .iconst 2, 1), (74, .if_icmp .ne 8, 3), (77, .aload_n 0, 1), (78, .getfield 395, 3), (81, .ireturn, 1), (82, .iload_n 1, 1), (83, .bipush 20, 2), (85, .if_icmp .ge 29, 3), (88, .aload_n 0, 1), (89, .getfield 23, 3), (92, .iload_n 1, 1), (93, .bipush 10, 2), (95, .isub, 1), (96, .iaload, 1), (97, .ifCond .ne 7, 3), (100, .iconst (-1), 1), (101, .goto 12, 3), (104, .aload_n 0, 1), (105, .getfield 26, 3), (108, .iload_n 1, 1), (109, .bipush 10, 2), (111, .isub, 1), (112, .iaload, 1), (113, .ireturn, 1), (114, .iload_n 1, 1), (115, .bipush 30, 2), (117, .if_icmp .ge 13, 3), (120, .aload_n 0, 1), (121, .getfield 32, 3), (124, .iload_n 1, 1), (125, .bipush 20, 2), (127, .isub, 1), (128, .iaload, 1), (129, .ireturn, 1), (130, .aload_n 0, 1), (131, .getfield 23, 3), (134, .iload_n 1, 1), (135, .bipush 30, 2), (137, .isub, 1), (138, .iaload, 1), (139, .ifCond .ne 7, 3), (142, .iconst (-1), 1), (143, .goto 12, 3), (146, .aload_n 0, 1), (147, .getfield 29, 3), (150, .iload_n 1, 1), (151, .bipush 30, 2), (153, .isub, 1), (154, .iaload, 1), (155, .ireturn, 1)]
set_option maxRecDepth 100000 in
theorem dt_count : q_ck k_count t_count = true := by decide +kernel
def r_count_48 (m : Nat) (h0 : qH) (d : Nat) (x1 : Int) (B : qB) (Q : qO → qB → Prop) : Prop := R32 x1 ∧ (¬ x1 = 0 → (¬ x1 = 1 → (¬ x1 = 2 → (x1 ≥ 20 → (x1 ≥ 30 → 0 ≤ x1 - 30 ∧ x1 - 30 < 8 ∧ R32 (B 6 (x1 - 30)) ∧ (¬ B 6 (x1 - 30) = 0 → Q (.inl (some (iv (B 8 (x1 - 30))))) (u2 B 0 0 0)) ∧ (B 6 (x1 - 30) = 0 → Q (.inl (some (iv (-1)))) (u2 B 0 0 0))) ∧ (x1 < 30 → 0 ≤ x1 - 20 ∧ x1 - 20 < 4 ∧ Q (.inl (some (iv (B 9 (x1 - 20))))) (u2 B 0 0 0))) ∧ (x1 < 20 → 0 ≤ x1 - 10 ∧ x1 - 10 < 8 ∧ R32 (B 6 (x1 - 10)) ∧ (¬ B 6 (x1 - 10) = 0 → Q (.inl (some (iv (B 7 (x1 - 10))))) (u2 B 0 0 0)) ∧ (B 6 (x1 - 10) = 0 → Q (.inl (some (iv (-1)))) (u2 B 0 0 0)))) ∧ (x1 = 2 → Q (.inl (some (iv (B 14 0)))) (u2 B 0 0 0))) ∧ (x1 = 1 → Q (.inl (some (iv (B 3 0)))) (u2 B 0 0 0))) ∧ (x1 = 0 → Q (.inl (some (iv (B 2 0)))) (u2 B 0 0 0))
theorem r_count_48_ok {m : Nat} {h0 : qH} {d : Nat} {x1 : Int} {B : qB} {Q : qO → qB → Prop} (hm : m + 100 < 1000000000) (w : r_count_48 m h0 d x1 B Q) : qZ m h0 (d + 1) k_count 48 [some (.ref m), some (iv x1)] [] B Q := by
  unfold r_count_48 at w
  obtain ⟨p1, w⟩ := w
  refine z_ldk (ok := q_isA) (n := 0) (ck_at dt_count 24 rfl) rfl rfl (fun _ => rfl) rfl rfl ?_
  refine z_op (ck_at dt_count 25 rfl) rfl (o_const _) ?_
  refine z_putI (j := 0) hm (ck_at dt_count 26 rfl) own_count (mf_at 47 rfl) (by decide) rfl rfl rfl ?_
  refine z_ldk (ok := q_isI) (n := 1) (ck_at dt_count 27 rfl) rfl rfl (fun _ => rfl) rfl rfl ?_
  refine z_ifz (t := 62) (ck_at dt_count 28 rfl) rfl p1 ?_ ?_
  · intro q; have w := w.1 q
    refine z_ldk (ok := q_isI) (n := 1) (ck_at dt_count 32 rfl) rfl rfl (fun _ => rfl) rfl rfl ?_
    refine z_op (ck_at dt_count 33 rfl) rfl (o_const _) ?_
    refine z_icmp (t := 72) (ck_at dt_count 34 rfl) rfl p1 ⟨by decide, by decide⟩ ?_ ?_
    · intro q; have w := w.1 q
      refine z_ldk (ok := q_isI) (n := 1) (ck_at dt_count 38 rfl) rfl rfl (fun _ => rfl) rfl rfl ?_
      refine z_op (ck_at dt_count 39 rfl) rfl (o_const _) ?_
      refine z_icmp (t := 82) (ck_at dt_count 40 rfl) rfl p1 ⟨by decide, by decide⟩ ?_ ?_
      · intro q; have w := w.1 q
        refine z_ldk (ok := q_isI) (n := 1) (ck_at dt_count 44 rfl) rfl rfl (fun _ => rfl) rfl rfl ?_
        refine z_op (ck_at dt_count 45 rfl) rfl (o_bipush _ (by decide)) ?_
        refine z_icmp (t := 114) (ck_at dt_count 46 rfl) rfl p1 ⟨by decide, by decide⟩ ?_ ?_
        · intro q; have w := w.1 q
          refine z_ldk (ok := q_isI) (n := 1) (ck_at dt_count 63 rfl) rfl rfl (fun _ => rfl) rfl rfl ?_
          refine z_op (ck_at dt_count 64 rfl) rfl (o_bipush _ (by decide)) ?_
          refine z_icmp (t := 130) (ck_at dt_count 65 rfl) rfl p1 ⟨by decide, by decide⟩ ?_ ?_
          · intro q; have w := w.1 q
            obtain ⟨p2, p3, p4, w⟩ := w
            refine z_ldk (ok := q_isA) (n := 0) (ck_at dt_count 73 rfl) rfl rfl (fun _ => rfl) rfl rfl ?_
            refine z_getR (j := 6) (a := 3) (ck_at dt_count 74 rfl) own_count (mf_at 4 rfl) (by decide) rfl rfl ?_
            refine z_ldk (ok := q_isI) (n := 1) (ck_at dt_count 75 rfl) rfl rfl (fun _ => rfl) rfl rfl ?_
            refine z_op (ck_at dt_count 76 rfl) rfl (o_bipush _ (by decide)) ?_
            refine z_op (ck_at dt_count 77 rfl) rfl o_isub ?_
            refine z_iald (j := 6) (n := 8) (ck_at dt_count 78 rfl) rfl rfl rfl p2 p3 ?_
            refine z_ifz (t := 146) (ck_at dt_count 79 rfl) rfl p4 ?_ ?_
            · intro q; have w := w.1 q
              refine z_ldk (ok := q_isA) (n := 0) (ck_at dt_count 82 rfl) rfl rfl (fun _ => rfl) rfl rfl ?_
              refine z_getR (j := 8) (a := 5) (ck_at dt_count 83 rfl) own_count (mf_at 6 rfl) (by decide) rfl rfl ?_
              refine z_ldk (ok := q_isI) (n := 1) (ck_at dt_count 84 rfl) rfl rfl (fun _ => rfl) rfl rfl ?_
              refine z_op (ck_at dt_count 85 rfl) rfl (o_bipush _ (by decide)) ?_
              refine z_op (ck_at dt_count 86 rfl) rfl o_isub ?_
              refine z_iald (j := 8) (n := 8) (ck_at dt_count 87 rfl) rfl rfl rfl p2 p3 ?_
              exact z_retI (ck_at dt_count 88 rfl) rt_count w
            · intro q; have w := w.2 q
              refine z_op (ck_at dt_count 80 rfl) rfl (o_const _) ?_
              refine z_goto (t := 155) (ck_at dt_count 81 rfl) rfl ?_
              exact z_retI (ck_at dt_count 88 rfl) rt_count w
          · intro q; have w := w.2 q
            obtain ⟨p5, p6, w⟩ := w
            refine z_ldk (ok := q_isA) (n := 0) (ck_at dt_count 66 rfl) rfl rfl (fun _ => rfl) rfl rfl ?_
            refine z_getR (j := 9) (a := 6) (ck_at dt_count 67 rfl) own_count (mf_at 7 rfl) (by decide) rfl rfl ?_
            refine z_ldk (ok := q_isI) (n := 1) (ck_at dt_count 68 rfl) rfl rfl (fun _ => rfl) rfl rfl ?_
            refine z_op (ck_at dt_count 69 rfl) rfl (o_bipush _ (by decide)) ?_
            refine z_op (ck_at dt_count 70 rfl) rfl o_isub ?_
            refine z_iald (j := 9) (n := 4) (ck_at dt_count 71 rfl) rfl rfl rfl p5 p6 ?_
            exact z_retI (ck_at dt_count 72 rfl) rt_count w
        · intro q; have w := w.2 q
          obtain ⟨p7, p8, p9, w⟩ := w
          refine z_ldk (ok := q_isA) (n := 0) (ck_at dt_count 47 rfl) rfl rfl (fun _ => rfl) rfl rfl ?_
          refine z_getR (j := 6) (a := 3) (ck_at dt_count 48 rfl) own_count (mf_at 4 rfl) (by decide) rfl rfl ?_
          refine z_ldk (ok := q_isI) (n := 1) (ck_at dt_count 49 rfl) rfl rfl (fun _ => rfl) rfl rfl ?_
          refine z_op (ck_at dt_count 50 rfl) rfl (o_bipush _ (by decide)) ?_
          refine z_op (ck_at dt_count 51 rfl) rfl o_isub ?_
          refine z_iald (j := 6) (n := 8) (ck_at dt_count 52 rfl) rfl rfl rfl p7 p8 ?_
          refine z_ifz (t := 104) (ck_at dt_count 53 rfl) rfl p9 ?_ ?_
          · intro q; have w := w.1 q
            refine z_ldk (ok := q_isA) (n := 0) (ck_at dt_count 56 rfl) rfl rfl (fun _ => rfl) rfl rfl ?_
            refine z_getR (j := 7) (a := 4) (ck_at dt_count 57 rfl) own_count (mf_at 5 rfl) (by decide) rfl rfl ?_
            refine z_ldk (ok := q_isI) (n := 1) (ck_at dt_count 58 rfl) rfl rfl (fun _ => rfl) rfl rfl ?_
            refine z_op (ck_at dt_count 59 rfl) rfl (o_bipush _ (by decide)) ?_
            refine z_op (ck_at dt_count 60 rfl) rfl o_isub ?_
            refine z_iald (j := 7) (n := 8) (ck_at dt_count 61 rfl) rfl rfl rfl p7 p8 ?_
            exact z_retI (ck_at dt_count 62 rfl) rt_count w
          · intro q; have w := w.2 q
            refine z_op (ck_at dt_count 54 rfl) rfl (o_const _) ?_
            refine z_goto (t := 113) (ck_at dt_count 55 rfl) rfl ?_
            exact z_retI (ck_at dt_count 62 rfl) rt_count w
      · intro q; have w := w.2 q
        refine z_ldk (ok := q_isA) (n := 0) (ck_at dt_count 41 rfl) rfl rfl (fun _ => rfl) rfl rfl ?_
        refine z_getI (j := 14) (ck_at dt_count 42 rfl) own_count (mf_at 73 rfl) (by decide) rfl ?_
        exact z_retI (ck_at dt_count 43 rfl) rt_count w
    · intro q; have w := w.2 q
      refine z_ldk (ok := q_isA) (n := 0) (ck_at dt_count 35 rfl) rfl rfl (fun _ => rfl) rfl rfl ?_
      refine z_getI (j := 3) (ck_at dt_count 36 rfl) own_count (mf_at 1 rfl) (by decide) rfl ?_
      exact z_retI (ck_at dt_count 37 rfl) rt_count w
  · intro q; have w := w.2 q
    refine z_ldk (ok := q_isA) (n := 0) (ck_at dt_count 29 rfl) rfl rfl (fun _ => rfl) rfl rfl ?_
    refine z_getI (j := 2) (ck_at dt_count 30 rfl) own_count (mf_at 48 rfl) (by decide) rfl ?_
    exact z_retI (ck_at dt_count 31 rfl) rt_count w
def r_count_47 (m : Nat) (h0 : qH) (d : Nat) (s0 : Int) (B : qB) (Q : qO → qB → Prop) : Prop := Q (.inl (some (iv s0))) B
theorem r_count_47_ok {m : Nat} {h0 : qH} {d : Nat} {s0 : Int} {B : qB} {Q : qO → qB → Prop} (hm : m + 100 < 1000000000) (w : r_count_47 m h0 d s0 B Q) : qZ m h0 (d + 1) k_count 47 [none, none] [iv s0] B Q := by
  unfold r_count_47 at w
  exact z_retI (ck_at dt_count 23 rfl) rt_count w
def r_count_39 (m : Nat) (h0 : qH) (d : Nat) (x1 s0 : Int) (B : qB) (Q : qO → qB → Prop) : Prop := R32 s0 ∧ (¬ s0 = 0 → r_count_48 m h0 d x1 B Q) ∧ (s0 = 0 → qZ m h0 d k_refuse 0 [some (.ref m), some (iv 1)] [] B (fun o B' => ∃ v : Int, o = .inl (some (iv v)) ∧ r_count_47 m h0 d v B' Q))
theorem r_count_39_ok {m : Nat} {h0 : qH} {d : Nat} {x1 s0 : Int} {B : qB} {Q : qO → qB → Prop} (hm : m + 100 < 1000000000) (w : r_count_39 m h0 d x1 s0 B Q) : qZ m h0 (d + 1) k_count 39 [some (.ref m), some (iv x1)] [iv s0] B Q := by
  unfold r_count_39 at w
  obtain ⟨p1, w⟩ := w
  refine z_ifz (t := 48) (ck_at dt_count 19 rfl) rfl p1 ?_ ?_
  · intro q; have w := w.1 q
    exact z_wk (r_count_48_ok hm w) ⟨rfl, ⟨rfl, trivial⟩⟩
  · intro q; have w := w.2 q
    refine z_ldk (ok := q_isA) (n := 0) (ck_at dt_count 20 rfl) rfl rfl (fun _ => rfl) rfl rfl ?_
    refine z_op (ck_at dt_count 21 rfl) rfl (o_const _) ?_
    refine z_virt (k' := k_refuse) (n := 0) (as := [iv 1]) (r := []) (ck_at dt_count 22 rfl) own_count (mm_at 0 rfl) vk_refuse rfl nl_refuse rfl rfl rfl rfl ?_
    exact w.mono (Nat.le_refl _) (fun o B' ⟨v, ho, w⟩ => ⟨some (iv v), ho, z_wk (r_count_47_ok hm w) trivial⟩)
def r_count_28 (m : Nat) (h0 : qH) (d : Nat) (x1 s0 : Int) (B : qB) (Q : qO → qB → Prop) : Prop := R32 s0 ∧ (¬ s0 = 0 → r_count_48 m h0 d x1 B Q) ∧ (s0 = 0 → qZ m h0 d k_in 0 [some (iv x1), some (iv 30), some (iv 37)] [] B (fun o B' => ∃ v : Int, o = .inl (some (iv v)) ∧ r_count_39 m h0 d x1 v B' Q))
theorem r_count_28_ok {m : Nat} {h0 : qH} {d : Nat} {x1 s0 : Int} {B : qB} {Q : qO → qB → Prop} (hm : m + 100 < 1000000000) (w : r_count_28 m h0 d x1 s0 B Q) : qZ m h0 (d + 1) k_count 28 [some (.ref m), some (iv x1)] [iv s0] B Q := by
  unfold r_count_28 at w
  obtain ⟨p1, w⟩ := w
  refine z_ifz (t := 48) (ck_at dt_count 14 rfl) rfl p1 ?_ ?_
  · intro q; have w := w.1 q
    exact z_wk (r_count_48_ok hm w) ⟨rfl, ⟨rfl, trivial⟩⟩
  · intro q; have w := w.2 q
    refine z_ldk (ok := q_isI) (n := 1) (ck_at dt_count 15 rfl) rfl rfl (fun _ => rfl) rfl rfl ?_
    refine z_op (ck_at dt_count 16 rfl) rfl (o_bipush _ (by decide)) ?_
    refine z_op (ck_at dt_count 17 rfl) rfl (o_bipush _ (by decide)) ?_
    refine z_stat (k' := k_in) (n := 0) (as := [iv x1, iv 30, iv 37]) (r := []) (ck_at dt_count 18 rfl) own_count (mm_at 2 rfl) (ms_at 0 rfl) vk_in rfl nl_in rfl rfl rfl rfl ?_
    exact w.mono (Nat.le_refl _) (fun o B' ⟨v, ho, w⟩ => ⟨some (iv v), ho, z_wk (r_count_39_ok hm w) ⟨rfl, ⟨rfl, trivial⟩⟩⟩)
def r_count_17 (m : Nat) (h0 : qH) (d : Nat) (x1 s0 : Int) (B : qB) (Q : qO → qB → Prop) : Prop := R32 s0 ∧ (¬ s0 = 0 → r_count_48 m h0 d x1 B Q) ∧ (s0 = 0 → qZ m h0 d k_in 0 [some (iv x1), some (iv 20), some (iv 23)] [] B (fun o B' => ∃ v : Int, o = .inl (some (iv v)) ∧ r_count_28 m h0 d x1 v B' Q))
theorem r_count_17_ok {m : Nat} {h0 : qH} {d : Nat} {x1 s0 : Int} {B : qB} {Q : qO → qB → Prop} (hm : m + 100 < 1000000000) (w : r_count_17 m h0 d x1 s0 B Q) : qZ m h0 (d + 1) k_count 17 [some (.ref m), some (iv x1)] [iv s0] B Q := by
  unfold r_count_17 at w
  obtain ⟨p1, w⟩ := w
  refine z_ifz (t := 48) (ck_at dt_count 9 rfl) rfl p1 ?_ ?_
  · intro q; have w := w.1 q
    exact z_wk (r_count_48_ok hm w) ⟨rfl, ⟨rfl, trivial⟩⟩
  · intro q; have w := w.2 q
    refine z_ldk (ok := q_isI) (n := 1) (ck_at dt_count 10 rfl) rfl rfl (fun _ => rfl) rfl rfl ?_
    refine z_op (ck_at dt_count 11 rfl) rfl (o_bipush _ (by decide)) ?_
    refine z_op (ck_at dt_count 12 rfl) rfl (o_bipush _ (by decide)) ?_
    refine z_stat (k' := k_in) (n := 0) (as := [iv x1, iv 20, iv 23]) (r := []) (ck_at dt_count 13 rfl) own_count (mm_at 2 rfl) (ms_at 0 rfl) vk_in rfl nl_in rfl rfl rfl rfl ?_
    exact w.mono (Nat.le_refl _) (fun o B' ⟨v, ho, w⟩ => ⟨some (iv v), ho, z_wk (r_count_28_ok hm w) ⟨rfl, ⟨rfl, trivial⟩⟩⟩)
def r_count_6 (m : Nat) (h0 : qH) (d : Nat) (x1 s0 : Int) (B : qB) (Q : qO → qB → Prop) : Prop := R32 s0 ∧ (¬ s0 = 0 → r_count_48 m h0 d x1 B Q) ∧ (s0 = 0 → qZ m h0 d k_in 0 [some (iv x1), some (iv 10), some (iv 17)] [] B (fun o B' => ∃ v : Int, o = .inl (some (iv v)) ∧ r_count_17 m h0 d x1 v B' Q))
theorem r_count_6_ok {m : Nat} {h0 : qH} {d : Nat} {x1 s0 : Int} {B : qB} {Q : qO → qB → Prop} (hm : m + 100 < 1000000000) (w : r_count_6 m h0 d x1 s0 B Q) : qZ m h0 (d + 1) k_count 6 [some (.ref m), some (iv x1)] [iv s0] B Q := by
  unfold r_count_6 at w
  obtain ⟨p1, w⟩ := w
  refine z_ifz (t := 48) (ck_at dt_count 4 rfl) rfl p1 ?_ ?_
  · intro q; have w := w.1 q
    exact z_wk (r_count_48_ok hm w) ⟨rfl, ⟨rfl, trivial⟩⟩
  · intro q; have w := w.2 q
    refine z_ldk (ok := q_isI) (n := 1) (ck_at dt_count 5 rfl) rfl rfl (fun _ => rfl) rfl rfl ?_
    refine z_op (ck_at dt_count 6 rfl) rfl (o_bipush _ (by decide)) ?_
    refine z_op (ck_at dt_count 7 rfl) rfl (o_bipush _ (by decide)) ?_
    refine z_stat (k' := k_in) (n := 0) (as := [iv x1, iv 10, iv 17]) (r := []) (ck_at dt_count 8 rfl) own_count (mm_at 2 rfl) (ms_at 0 rfl) vk_in rfl nl_in rfl rfl rfl rfl ?_
    exact w.mono (Nat.le_refl _) (fun o B' ⟨v, ho, w⟩ => ⟨some (iv v), ho, z_wk (r_count_17_ok hm w) ⟨rfl, ⟨rfl, trivial⟩⟩⟩)
def r_count_0 (m : Nat) (h0 : qH) (d : Nat) (x1 : Int) (B : qB) (Q : qO → qB → Prop) : Prop := qZ m h0 d k_in 0 [some (iv x1), some (iv 0), some (iv 2)] [] B (fun o B' => ∃ v : Int, o = .inl (some (iv v)) ∧ r_count_6 m h0 d x1 v B' Q)
theorem r_count_0_ok {m : Nat} {h0 : qH} {d : Nat} {x1 : Int} {B : qB} {Q : qO → qB → Prop} (hm : m + 100 < 1000000000) (w : r_count_0 m h0 d x1 B Q) : qZ m h0 (d + 1) k_count 0 [some (.ref m), some (iv x1)] [] B Q := by
  unfold r_count_0 at w
  refine z_ldk (ok := q_isI) (n := 1) (ck_at dt_count 0 rfl) rfl rfl (fun _ => rfl) rfl rfl ?_
  refine z_op (ck_at dt_count 1 rfl) rfl (o_const _) ?_
  refine z_op (ck_at dt_count 2 rfl) rfl (o_const _) ?_
  refine z_stat (k' := k_in) (n := 0) (as := [iv x1, iv 0, iv 2]) (r := []) (ck_at dt_count 3 rfl) own_count (mm_at 2 rfl) (ms_at 0 rfl) vk_in rfl nl_in rfl rfl rfl rfl ?_
  exact w.mono (Nat.le_refl _) (fun o B' ⟨v, ho, w⟩ => ⟨some (iv v), ho, z_wk (r_count_6_ok hm w) ⟨rfl, ⟨rfl, trivial⟩⟩⟩)
/-! found(II)I -/
def t_found : List (Nat × Instr × Nat) := [(0, .iload_n 2, 1), (1, .iconst 0, 1), (2, .iconst 1, 1), (3, .invokestatic 170, 3), (6, .ifCond .ne 9, 3), (9, .aload_n 0, 1), (10, .iconst 1, 1), (11, .invokevirtual 162, 3), (14, .ireturn, 1), (15, .iload_n 1, 1), (16, .iconst 0, 1), (17, .aload_n 0, 1), (18, .getfield 395, 3), (21, .iconst 1, 1), (22, .isub, 1), (23, .invokestatic 170, 3), (26, .ifCond .ne 9, 3), (29, .aload_n 0, 1), (30, .iconst 2, 1), (31, .invokevirtual 162, 3), (34, .ireturn, 1), (35, .aload_n 0, 1), (36, .iconst 0, 1), (37, .putfield 156, 3), (40, .iload_n 2, 1), (41, .ifCond .ne 12, 3), (44, .aload_n 0, 1), (45, .getfield 35, 3), (48, .iload_n 1, 1), (49, .iaload, 1), (50, .goto 9, 3), (53, .aload_n 0, 1), (54, .getfield 38, 3), (57, .iload_n 1, 1), (58, .iaload, 1), (59, .ireturn, 1)]
set_option maxRecDepth 100000 in
theorem dt_found : q_ck k_found t_found = true := by decide +kernel
def r_found_34 (m : Nat) (h0 : qH) (d : Nat) (s0 : Int) (B : qB) (Q : qO → qB → Prop) : Prop := Q (.inl (some (iv s0))) B
theorem r_found_34_ok {m : Nat} {h0 : qH} {d : Nat} {s0 : Int} {B : qB} {Q : qO → qB → Prop} (hm : m + 100 < 1000000000) (w : r_found_34 m h0 d s0 B Q) : qZ m h0 (d + 1) k_found 34 [none, none, none] [iv s0] B Q := by
  unfold r_found_34 at w
  exact z_retI (ck_at dt_found 20 rfl) rt_found w
def r_found_26 (m : Nat) (h0 : qH) (d : Nat) (x1 x2 s0 : Int) (B : qB) (Q : qO → qB → Prop) : Prop := R32 s0 ∧ (¬ s0 = 0 → R32 x2 ∧ (¬ x2 = 0 → 0 ≤ x1 ∧ x1 < 1001 ∧ Q (.inl (some (iv (B 11 x1)))) (u2 B 0 0 0)) ∧ (x2 = 0 → 0 ≤ x1 ∧ x1 < 1001 ∧ Q (.inl (some (iv (B 10 x1)))) (u2 B 0 0 0))) ∧ (s0 = 0 → qZ m h0 d k_refuse 0 [some (.ref m), some (iv 2)] [] B (fun o B' => ∃ v : Int, o = .inl (some (iv v)) ∧ r_found_34 m h0 d v B' Q))
theorem r_found_26_ok {m : Nat} {h0 : qH} {d : Nat} {x1 x2 s0 : Int} {B : qB} {Q : qO → qB → Prop} (hm : m + 100 < 1000000000) (w : r_found_26 m h0 d x1 x2 s0 B Q) : qZ m h0 (d + 1) k_found 26 [some (.ref m), some (iv x1), some (iv x2)] [iv s0] B Q := by
  unfold r_found_26 at w
  obtain ⟨p1, w⟩ := w
  refine z_ifz (t := 35) (ck_at dt_found 16 rfl) rfl p1 ?_ ?_
  · intro q; have w := w.1 q
    obtain ⟨p2, w⟩ := w
    refine z_ldk (ok := q_isA) (n := 0) (ck_at dt_found 21 rfl) rfl rfl (fun _ => rfl) rfl rfl ?_
    refine z_op (ck_at dt_found 22 rfl) rfl (o_const _) ?_
    refine z_putI (j := 0) hm (ck_at dt_found 23 rfl) own_found (mf_at 47 rfl) (by decide) rfl rfl rfl ?_
    refine z_ldk (ok := q_isI) (n := 2) (ck_at dt_found 24 rfl) rfl rfl (fun _ => rfl) rfl rfl ?_
    refine z_ifz (t := 53) (ck_at dt_found 25 rfl) rfl p2 ?_ ?_
    · intro q; have w := w.1 q
      obtain ⟨p3, p4, w⟩ := w
      refine z_ldk (ok := q_isA) (n := 0) (ck_at dt_found 31 rfl) rfl rfl (fun _ => rfl) rfl rfl ?_
      refine z_getR (j := 11) (a := 8) (ck_at dt_found 32 rfl) own_found (mf_at 9 rfl) (by decide) rfl rfl ?_
      refine z_ldk (ok := q_isI) (n := 1) (ck_at dt_found 33 rfl) rfl rfl (fun _ => rfl) rfl rfl ?_
      refine z_iald (j := 11) (n := 1001) (ck_at dt_found 34 rfl) rfl rfl rfl p3 p4 ?_
      exact z_retI (ck_at dt_found 35 rfl) rt_found w
    · intro q; have w := w.2 q
      obtain ⟨p5, p6, w⟩ := w
      refine z_ldk (ok := q_isA) (n := 0) (ck_at dt_found 26 rfl) rfl rfl (fun _ => rfl) rfl rfl ?_
      refine z_getR (j := 10) (a := 7) (ck_at dt_found 27 rfl) own_found (mf_at 8 rfl) (by decide) rfl rfl ?_
      refine z_ldk (ok := q_isI) (n := 1) (ck_at dt_found 28 rfl) rfl rfl (fun _ => rfl) rfl rfl ?_
      refine z_iald (j := 10) (n := 1001) (ck_at dt_found 29 rfl) rfl rfl rfl p5 p6 ?_
      refine z_goto (t := 59) (ck_at dt_found 30 rfl) rfl ?_
      exact z_retI (ck_at dt_found 35 rfl) rt_found w
  · intro q; have w := w.2 q
    refine z_ldk (ok := q_isA) (n := 0) (ck_at dt_found 17 rfl) rfl rfl (fun _ => rfl) rfl rfl ?_
    refine z_op (ck_at dt_found 18 rfl) rfl (o_const _) ?_
    refine z_virt (k' := k_refuse) (n := 0) (as := [iv 2]) (r := []) (ck_at dt_found 19 rfl) own_found (mm_at 0 rfl) vk_refuse rfl nl_refuse rfl rfl rfl rfl ?_
    exact w.mono (Nat.le_refl _) (fun o B' ⟨v, ho, w⟩ => ⟨some (iv v), ho, z_wk (r_found_34_ok hm w) trivial⟩)
def r_found_14 (m : Nat) (h0 : qH) (d : Nat) (s0 : Int) (B : qB) (Q : qO → qB → Prop) : Prop := Q (.inl (some (iv s0))) B
theorem r_found_14_ok {m : Nat} {h0 : qH} {d : Nat} {s0 : Int} {B : qB} {Q : qO → qB → Prop} (hm : m + 100 < 1000000000) (w : r_found_14 m h0 d s0 B Q) : qZ m h0 (d + 1) k_found 14 [none, none, none] [iv s0] B Q := by
  unfold r_found_14 at w
  exact z_retI (ck_at dt_found 8 rfl) rt_found w
def r_found_6 (m : Nat) (h0 : qH) (d : Nat) (x1 x2 s0 : Int) (B : qB) (Q : qO → qB → Prop) : Prop := R32 s0 ∧ (¬ s0 = 0 → qZ m h0 d k_in 0 [some (iv x1), some (iv 0), some (iv ((B 14 0) - 1))] [] B (fun o B' => ∃ v : Int, o = .inl (some (iv v)) ∧ r_found_26 m h0 d x1 x2 v B' Q)) ∧ (s0 = 0 → qZ m h0 d k_refuse 0 [some (.ref m), some (iv 1)] [] B (fun o B' => ∃ v : Int, o = .inl (some (iv v)) ∧ r_found_14 m h0 d v B' Q))
theorem r_found_6_ok {m : Nat} {h0 : qH} {d : Nat} {x1 x2 s0 : Int} {B : qB} {Q : qO → qB → Prop} (hm : m + 100 < 1000000000) (w : r_found_6 m h0 d x1 x2 s0 B Q) : qZ m h0 (d + 1) k_found 6 [some (.ref m), some (iv x1), some (iv x2)] [iv s0] B Q := by
  unfold r_found_6 at w
  obtain ⟨p1, w⟩ := w
  refine z_ifz (t := 15) (ck_at dt_found 4 rfl) rfl p1 ?_ ?_
  · intro q; have w := w.1 q
    refine z_ldk (ok := q_isI) (n := 1) (ck_at dt_found 9 rfl) rfl rfl (fun _ => rfl) rfl rfl ?_
    refine z_op (ck_at dt_found 10 rfl) rfl (o_const _) ?_
    refine z_ldk (ok := q_isA) (n := 0) (ck_at dt_found 11 rfl) rfl rfl (fun _ => rfl) rfl rfl ?_
    refine z_getI (j := 14) (ck_at dt_found 12 rfl) own_found (mf_at 73 rfl) (by decide) rfl ?_
    refine z_op (ck_at dt_found 13 rfl) rfl (o_const _) ?_
    refine z_op (ck_at dt_found 14 rfl) rfl o_isub ?_
    refine z_stat (k' := k_in) (n := 0) (as := [iv x1, iv 0, iv ((B 14 0) - 1)]) (r := []) (ck_at dt_found 15 rfl) own_found (mm_at 2 rfl) (ms_at 0 rfl) vk_in rfl nl_in rfl rfl rfl rfl ?_
    exact w.mono (Nat.le_refl _) (fun o B' ⟨v, ho, w⟩ => ⟨some (iv v), ho, z_wk (r_found_26_ok hm w) ⟨rfl, ⟨rfl, ⟨rfl, trivial⟩⟩⟩⟩)
  · intro q; have w := w.2 q
    refine z_ldk (ok := q_isA) (n := 0) (ck_at dt_found 5 rfl) rfl rfl (fun _ => rfl) rfl rfl ?_
    refine z_op (ck_at dt_found 6 rfl) rfl (o_const _) ?_
    refine z_virt (k' := k_refuse) (n := 0) (as := [iv 1]) (r := []) (ck_at dt_found 7 rfl) own_found (mm_at 0 rfl) vk_refuse rfl nl_refuse rfl rfl rfl rfl ?_
    exact w.mono (Nat.le_refl _) (fun o B' ⟨v, ho, w⟩ => ⟨some (iv v), ho, z_wk (r_found_14_ok hm w) trivial⟩)
def r_found_0 (m : Nat) (h0 : qH) (d : Nat) (x1 x2 : Int) (B : qB) (Q : qO → qB → Prop) : Prop := qZ m h0 d k_in 0 [some (iv x2), some (iv 0), some (iv 1)] [] B (fun o B' => ∃ v : Int, o = .inl (some (iv v)) ∧ r_found_6 m h0 d x1 x2 v B' Q)
theorem r_found_0_ok {m : Nat} {h0 : qH} {d : Nat} {x1 x2 : Int} {B : qB} {Q : qO → qB → Prop} (hm : m + 100 < 1000000000) (w : r_found_0 m h0 d x1 x2 B Q) : qZ m h0 (d + 1) k_found 0 [some (.ref m), some (iv x1), some (iv x2)] [] B Q := by
  unfold r_found_0 at w
  refine z_ldk (ok := q_isI) (n := 2) (ck_at dt_found 0 rfl) rfl rfl (fun _ => rfl) rfl rfl ?_
  refine z_op (ck_at dt_found 1 rfl) rfl (o_const _) ?_
  refine z_op (ck_at dt_found 2 rfl) rfl (o_const _) ?_
  refine z_stat (k' := k_in) (n := 0) (as := [iv x2, iv 0, iv 1]) (r := []) (ck_at dt_found 3 rfl) own_found (mm_at 2 rfl) (ms_at 0 rfl) vk_in rfl nl_in rfl rfl rfl rfl ?_
  exact w.mono (Nat.le_refl _) (fun o B' ⟨v, ho, w⟩ => ⟨some (iv v), ho, z_wk (r_found_6_ok hm w) ⟨rfl, ⟨rfl, ⟨rfl, trivial⟩⟩⟩⟩)
/-! group(II)I -/
def t_group : List (Nat × Instr × Nat) := [(0, .iload_n 1, 1), (1, .iconst 0, 1), (2, .bipush 9, 2), (4, .invokestatic 170, 3), (7, .ifCond .eq 12, 3), (10, .iload_n 2, 1), (11, .iconst 0, 1), (12, .iconst 1, 1), (13, .invokestatic 170, 3), (16, .ifCond .ne 9, 3), (19, .aload_n 0, 1), (20, .iconst 1, 1), (21, .invokevirtual 162, 3), (24, .ireturn, 1), (25, .aload_n 0, 1), (26, .iconst 0, 1), (27, .putfield 156, 3), (30, .aload_n 0, 1), (31, .getfield 389, 3), (34, .ifCond .eq 16, 3), (37, .aload_n 0, 1), (38, .getfield 115, 3), (41, .iconst 2, 1), (42, .iload_n 1, 1), (43, .imul, 1), (44, .iload_n 2, 1), (45, .iadd, 1), (46, .iaload, 1), (47, .goto 4, 3), (50, .iconst (-1), 1), (51, .ireturn, 1)]
set_option maxRecDepth 100000 in
theorem dt_group : q_ck k_group t_group = true := by decide +kernel
def r_group_24 (m : Nat) (h0 : qH) (d : Nat) (s0 : Int) (B : qB) (Q : qO → qB → Prop) : Prop := Q (.inl (some (iv s0))) B
theorem r_group_24_ok {m : Nat} {h0 : qH} {d : Nat} {s0 : Int} {B : qB} {Q : qO → qB → Prop} (hm : m + 100 < 1000000000) (w : r_group_24 m h0 d s0 B Q) : qZ m h0 (d + 1) k_group 24 [none, none, none] [iv s0] B Q := by
  unfold r_group_24 at w
  exact z_retI (ck_at dt_group 13 rfl) rt_group w
def r_group_19 (m : Nat) (h0 : qH) (d : Nat) (B : qB) (Q : qO → qB → Prop) : Prop := qZ m h0 d k_refuse 0 [some (.ref m), some (iv 1)] [] B (fun o B' => ∃ v : Int, o = .inl (some (iv v)) ∧ r_group_24 m h0 d v B' Q)
theorem r_group_19_ok {m : Nat} {h0 : qH} {d : Nat} {B : qB} {Q : qO → qB → Prop} (hm : m + 100 < 1000000000) (w : r_group_19 m h0 d B Q) : qZ m h0 (d + 1) k_group 19 [some (.ref m), none, none] [] B Q := by
  unfold r_group_19 at w
  refine z_ldk (ok := q_isA) (n := 0) (ck_at dt_group 10 rfl) rfl rfl (fun _ => rfl) rfl rfl ?_
  refine z_op (ck_at dt_group 11 rfl) rfl (o_const _) ?_
  refine z_virt (k' := k_refuse) (n := 0) (as := [iv 1]) (r := []) (ck_at dt_group 12 rfl) own_group (mm_at 0 rfl) vk_refuse rfl nl_refuse rfl rfl rfl rfl ?_
  exact w.mono (Nat.le_refl _) (fun o B' ⟨v, ho, w⟩ => ⟨some (iv v), ho, z_wk (r_group_24_ok hm w) trivial⟩)
def r_group_16 (m : Nat) (h0 : qH) (d : Nat) (x1 x2 s0 : Int) (B : qB) (Q : qO → qB → Prop) : Prop := R32 s0 ∧ (¬ s0 = 0 → R32 (B 71 0) ∧ (B 71 0 = 0 → Q (.inl (some (iv (-1)))) (u2 B 0 0 0)) ∧ (¬ B 71 0 = 0 → 0 ≤ (2 * x1) + x2 ∧ (2 * x1) + x2 < 20 ∧ Q (.inl (some (iv (B 50 ((2 * x1) + x2))))) (u2 B 0 0 0))) ∧ (s0 = 0 → r_group_19 m h0 d B Q)
theorem r_group_16_ok {m : Nat} {h0 : qH} {d : Nat} {x1 x2 s0 : Int} {B : qB} {Q : qO → qB → Prop} (hm : m + 100 < 1000000000) (w : r_group_16 m h0 d x1 x2 s0 B Q) : qZ m h0 (d + 1) k_group 16 [some (.ref m), some (iv x1), some (iv x2)] [iv s0] B Q := by
  unfold r_group_16 at w
  obtain ⟨p1, w⟩ := w
  refine z_ifz (t := 25) (ck_at dt_group 9 rfl) rfl p1 ?_ ?_
  · intro q; have w := w.1 q
    obtain ⟨p2, w⟩ := w
    refine z_ldk (ok := q_isA) (n := 0) (ck_at dt_group 14 rfl) rfl rfl (fun _ => rfl) rfl rfl ?_
    refine z_op (ck_at dt_group 15 rfl) rfl (o_const _) ?_
    refine z_putI (j := 0) hm (ck_at dt_group 16 rfl) own_group (mf_at 47 rfl) (by decide) rfl rfl rfl ?_
    refine z_ldk (ok := q_isA) (n := 0) (ck_at dt_group 17 rfl) rfl rfl (fun _ => rfl) rfl rfl ?_
    refine z_getI (j := 71) (ck_at dt_group 18 rfl) own_group (mf_at 60 rfl) (by decide) rfl ?_
    refine z_ifz (t := 50) (ck_at dt_group 19 rfl) rfl p2 ?_ ?_
    · intro q; have w := w.1 q
      refine z_op (ck_at dt_group 29 rfl) rfl (o_const _) ?_
      exact z_retI (ck_at dt_group 30 rfl) rt_group w
    · intro q; have w := w.2 q
      obtain ⟨p3, p4, w⟩ := w
      refine z_ldk (ok := q_isA) (n := 0) (ck_at dt_group 20 rfl) rfl rfl (fun _ => rfl) rfl rfl ?_
      refine z_getR (j := 50) (a := 33) (ck_at dt_group 21 rfl) own_group (mf_at 34 rfl) (by decide) rfl rfl ?_
      refine z_op (ck_at dt_group 22 rfl) rfl (o_const _) ?_
      refine z_ldk (ok := q_isI) (n := 1) (ck_at dt_group 23 rfl) rfl rfl (fun _ => rfl) rfl rfl ?_
      refine z_op (ck_at dt_group 24 rfl) rfl o_imul ?_
      refine z_ldk (ok := q_isI) (n := 2) (ck_at dt_group 25 rfl) rfl rfl (fun _ => rfl) rfl rfl ?_
      refine z_op (ck_at dt_group 26 rfl) rfl o_iadd ?_
      refine z_iald (j := 50) (n := 20) (ck_at dt_group 27 rfl) rfl rfl rfl p3 p4 ?_
      refine z_goto (t := 51) (ck_at dt_group 28 rfl) rfl ?_
      exact z_retI (ck_at dt_group 30 rfl) rt_group w
  · intro q; have w := w.2 q
    exact z_wk (r_group_19_ok hm w) ⟨rfl, trivial⟩
def r_group_7 (m : Nat) (h0 : qH) (d : Nat) (x1 x2 s0 : Int) (B : qB) (Q : qO → qB → Prop) : Prop := R32 s0 ∧ (s0 = 0 → r_group_19 m h0 d B Q) ∧ (¬ s0 = 0 → qZ m h0 d k_in 0 [some (iv x2), some (iv 0), some (iv 1)] [] B (fun o B' => ∃ v : Int, o = .inl (some (iv v)) ∧ r_group_16 m h0 d x1 x2 v B' Q))
theorem r_group_7_ok {m : Nat} {h0 : qH} {d : Nat} {x1 x2 s0 : Int} {B : qB} {Q : qO → qB → Prop} (hm : m + 100 < 1000000000) (w : r_group_7 m h0 d x1 x2 s0 B Q) : qZ m h0 (d + 1) k_group 7 [some (.ref m), some (iv x1), some (iv x2)] [iv s0] B Q := by
  unfold r_group_7 at w
  obtain ⟨p1, w⟩ := w
  refine z_ifz (t := 19) (ck_at dt_group 4 rfl) rfl p1 ?_ ?_
  · intro q; have w := w.1 q
    exact z_wk (r_group_19_ok hm w) ⟨rfl, trivial⟩
  · intro q; have w := w.2 q
    refine z_ldk (ok := q_isI) (n := 2) (ck_at dt_group 5 rfl) rfl rfl (fun _ => rfl) rfl rfl ?_
    refine z_op (ck_at dt_group 6 rfl) rfl (o_const _) ?_
    refine z_op (ck_at dt_group 7 rfl) rfl (o_const _) ?_
    refine z_stat (k' := k_in) (n := 0) (as := [iv x2, iv 0, iv 1]) (r := []) (ck_at dt_group 8 rfl) own_group (mm_at 2 rfl) (ms_at 0 rfl) vk_in rfl nl_in rfl rfl rfl rfl ?_
    exact w.mono (Nat.le_refl _) (fun o B' ⟨v, ho, w⟩ => ⟨some (iv v), ho, z_wk (r_group_16_ok hm w) ⟨rfl, ⟨rfl, ⟨rfl, trivial⟩⟩⟩⟩)
def r_group_0 (m : Nat) (h0 : qH) (d : Nat) (x1 x2 : Int) (B : qB) (Q : qO → qB → Prop) : Prop := qZ m h0 d k_in 0 [some (iv x1), some (iv 0), some (iv 9)] [] B (fun o B' => ∃ v : Int, o = .inl (some (iv v)) ∧ r_group_7 m h0 d x1 x2 v B' Q)
theorem r_group_0_ok {m : Nat} {h0 : qH} {d : Nat} {x1 x2 : Int} {B : qB} {Q : qO → qB → Prop} (hm : m + 100 < 1000000000) (w : r_group_0 m h0 d x1 x2 B Q) : qZ m h0 (d + 1) k_group 0 [some (.ref m), some (iv x1), some (iv x2)] [] B Q := by
  unfold r_group_0 at w
  refine z_ldk (ok := q_isI) (n := 1) (ck_at dt_group 0 rfl) rfl rfl (fun _ => rfl) rfl rfl ?_
  refine z_op (ck_at dt_group 1 rfl) rfl (o_const _) ?_
  refine z_op (ck_at dt_group 2 rfl) rfl (o_bipush _ (by decide)) ?_
  refine z_stat (k' := k_in) (n := 0) (as := [iv x1, iv 0, iv 9]) (r := []) (ck_at dt_group 3 rfl) own_group (mm_at 2 rfl) (ms_at 0 rfl) vk_in rfl nl_in rfl rfl rfl rfl ?_
  exact w.mono (Nat.le_refl _) (fun o B' ⟨v, ho, w⟩ => ⟨some (iv v), ho, z_wk (r_group_7_ok hm w) ⟨rfl, ⟨rfl, ⟨rfl, trivial⟩⟩⟩⟩)
