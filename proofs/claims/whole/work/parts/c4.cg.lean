/-! PatternTrier$Failures.at(I)I -/
def t_Fl_at : List (Nat × Instr × Nat) := [(0, .aload_n 0, 1), (1, .getfield 9, 3), (4, .iload_n 1, 1), (5, .iconst 3, 1), (6, .iushr, 1), (7, .invokestatic 33, 3), (10, .iconst 4, 1), (11, .iload_n 1, 1), (12, .bipush 7, 2), (14, .iand, 1), (15, .imul, 1), (16, .iushr, 1), (17, .bipush 15, 2), (19, .iand, 1), (20, .ireturn, 1)]
set_option maxRecDepth 100000 in
theorem dt_Fl_at : q_ck n_Fl_at t_Fl_at = true := by decide +kernel
def c_Fl_at_0 (h1 : qH) (d : Nat) (x1 : Int) (B : qB) (Q : qO → qB → Prop) : Prop := isA B 1 ((B 105 0).toNat) (el B ((B 105 0).toNat)) ∧ el B ((B 105 0).toNat) ≤ 67108864 ∧ (B 105 0).toNat < 1000000000 ∧ 0 ≤ (iUshr x1 3) ∧ (iUshr x1 3) < el B ((B 105 0).toNat) ∧ Q (.inl (some (iv (iAnd (iUshr (B ((B 105 0).toNat) (iUshr x1 3)) (4 * (iAnd x1 7))) 15)))) B
theorem c_Fl_at_0_ok {h1 : qH} {d : Nat} {x1 : Int} {B : qB} {Q : qO → qB → Prop} (hd : 1 ≤ d) (hS : SH B) (w : c_Fl_at_0 h1 d x1 B Q) : qY h1 (d + 1) n_Fl_at 0 [some (.ref 105), some (iv x1)] [] B Q := by
  unfold c_Fl_at_0 at w
  obtain ⟨p1, p2, p3, p4, p5, w⟩ := w
  refine y_ldk (ok := q_isA) (n := 0) (ck_at dt_Fl_at 0 rfl) rfl rfl (fun _ => rfl) rfl rfl ?_
  refine y_getD (K := 2) (j := 0) (a := 105) (ck_at dt_Fl_at 1 rfl) own_Fl_at (cf_at 4 rfl) rfl rfl rfl ⟨(SH.o hS ⟨by decide, by decide, by decide⟩), ?_⟩
  refine y_ldk (ok := q_isI) (n := 1) (ck_at dt_Fl_at 2 rfl) rfl rfl (fun _ => rfl) rfl rfl ?_
  refine y_op (ck_at dt_Fl_at 3 rfl) rfl (o_const _) ?_
  refine y_op (ck_at dt_Fl_at 4 rfl) rfl o_iushr ?_
  refine y_stat3P (k' := n_P_cell) (n := 0) (as := [.ref ((B 105 0).toNat), iv (iUshr x1 3)]) (r := []) (ck_at dt_Fl_at 5 rfl) own_Fl_at (cm_at 23 rfl) (cs_at 1 rfl) vk_P_cell rfl nl_P_cell rfl rfl rfl rfl  (Y_P_cell (by omega) hS p1 p2 p4 p5 ⟨rfl, rfl⟩) ?_
  refine y_op (ck_at dt_Fl_at 6 rfl) rfl (o_const _) ?_
  refine y_ldk (ok := q_isI) (n := 1) (ck_at dt_Fl_at 7 rfl) rfl rfl (fun _ => rfl) rfl rfl ?_
  refine y_op (ck_at dt_Fl_at 8 rfl) rfl (o_bipush _ (by decide)) ?_
  refine y_op (ck_at dt_Fl_at 9 rfl) rfl o_iand ?_
  refine y_op (ck_at dt_Fl_at 10 rfl) rfl o_imul ?_
  refine y_op (ck_at dt_Fl_at 11 rfl) rfl o_iushr ?_
  refine y_op (ck_at dt_Fl_at 12 rfl) rfl (o_bipush _ (by decide)) ?_
  refine y_op (ck_at dt_Fl_at 13 rfl) rfl o_iand ?_
  exact y_retI (ck_at dt_Fl_at 14 rfl) rt_Fl_at w
/-! PatternTrier$Failures.clear(I)V -/
def t_Fl_clear : List (Nat × Instr × Nat) := [(0, .ldc 13, 2), (2, .iconst 0, 1), (3, .iload_n 1, 1), (4, .iconst 3, 1), (5, .iushr, 1), (6, .iconst 1, 1), (7, .iadd, 1), (8, .invokestatic 14, 3), (11, .invokestatic 20, 3), (14, .istore_n 2, 1), (15, .iload_n 2, 1), (16, .aload_n 0, 1), (17, .getfield 9, 3), (20, .arraylength, 1), (21, .if_icmp .gt 14, 3), (24, .aload_n 0, 1), (25, .getfield 9, 3), (28, .iconst 0, 1), (29, .iload_n 2, 1), (30, .iconst 0, 1), (31, .invokestatic 23, 3), (34, .return_, 1), (35, .aload_n 0, 1), (36, .getfield 9, 3), (39, .arraylength, 1), (40, .istore_n 3, 1), (41, .iconst 0, 1), (42, .istore 4, 2), (44, .iload 4, 2), (46, .bipush 20, 2), (48, .if_icmp .ge 18, 3), (51, .iload_n 3, 1), (52, .iload_n 2, 1), (53, .if_icmp .ge 13, 3), (56, .iload_n 3, 1), (57, .iconst 2, 1), (58, .imul, 1), (59, .istore_n 3, 1), (60, .iinc 4 1, 3), (63, .goto (-19), 3), (66, .aload_n 0, 1), (67, .iload_n 3, 1), (68, .newarray .int, 2), (70, .putfield 9, 3), (73, .return_, 1)]
set_option maxRecDepth 100000 in
theorem dt_Fl_clear : q_ck n_Fl_clear t_Fl_clear = true := by decide +kernel
def c_Fl_clear_44 (h1 : qH) (d : Nat) (x2 : Int) (x3 : Int) (x4 : Int) (B : qB) (Q : qO → qB → Prop) : Prop := R32 x4 ∧ (x4 ≥ 20 → (B 2000000000 (-1) = 0 ∧ 0 ≤ B 2000000000 0 ∧ B 2000000000 0 < 1000000000 ∧ 0 ≤ B 2000000000 1) ∧ 0 ≤ x3 ∧ x3 ≤ 67108864 ∧ SH (nwC B x3) ∧ Q (.inl none) (u2 (nwC B x3) 105 0 (((B 2000000000 0).toNat : Nat) : Int))) ∧ (x4 < 20 → R32 x3 ∧ R32 x2 ∧ (x3 ≥ x2 → (B 2000000000 (-1) = 0 ∧ 0 ≤ B 2000000000 0 ∧ B 2000000000 0 < 1000000000 ∧ 0 ≤ B 2000000000 1) ∧ 0 ≤ x3 ∧ x3 ≤ 67108864 ∧ SH (nwC B x3) ∧ Q (.inl none) (u2 (nwC B x3) 105 0 (((B 2000000000 0).toNat : Nat) : Int))) ∧ (x3 < x2 → qY h1 (d + 1) n_Fl_clear 44 [some (.ref 105), none, some (iv x2), some (iv (x3 * 2)), some (iv (x4 + 1))] [] B Q))
theorem c_Fl_clear_44_ok {h1 : qH} {d : Nat} {x2 : Int} {x3 : Int} {x4 : Int} {B : qB} {Q : qO → qB → Prop} (hd : 0 ≤ d) (hS : SH B) (w : c_Fl_clear_44 h1 d x2 x3 x4 B Q) : qY h1 (d + 1) n_Fl_clear 44 [some (.ref 105), none, some (iv x2), some (iv x3), some (iv x4)] [] B Q := by
  unfold c_Fl_clear_44 at w
  obtain ⟨p1, w⟩ := w
  refine y_ldk (ok := q_isI) (n := 4) (ck_at dt_Fl_clear 28 rfl) rfl rfl (fun _ => rfl) rfl rfl ?_
  refine y_op (ck_at dt_Fl_clear 29 rfl) rfl (o_bipush _ (by decide)) ?_
  refine y_icmp (t := 66) (ck_at dt_Fl_clear 30 rfl) rfl p1 ⟨by decide, by decide⟩ ?_ ?_
  · intro q; have w := w.1 q
    obtain ⟨p2, p3, p4, p5, w⟩ := w
    refine y_ldk (ok := q_isA) (n := 0) (ck_at dt_Fl_clear 40 rfl) rfl rfl (fun _ => rfl) rfl rfl ?_
    refine y_ldk (ok := q_isI) (n := 3) (ck_at dt_Fl_clear 41 rfl) rfl rfl (fun _ => rfl) rfl rfl ?_
    refine y_newa (ck_at dt_Fl_clear 42 rfl) ⟨p2, p3, p4, ?_⟩
    refine y_putR (K := 2) (j := 0) (a := 105) (ck_at dt_Fl_clear 43 rfl) own_Fl_clear (cf_at 4 rfl) rfl rfl rfl rfl rfl rfl ⟨⟨SH.o p5 ⟨by decide, by decide, by decide⟩, by decide⟩, ?_⟩
    have hS6 := SH_u2 (b := 105) (x := 0) (z := (((B 2000000000 0).toNat : Nat) : Int)) p5 (by decide)
    exact y_ret0 (ck_at dt_Fl_clear 44 rfl) rt_Fl_clear w
  · intro q; have w := w.2 q
    obtain ⟨p7, p8, w⟩ := w
    refine y_ldk (ok := q_isI) (n := 3) (ck_at dt_Fl_clear 31 rfl) rfl rfl (fun _ => rfl) rfl rfl ?_
    refine y_ldk (ok := q_isI) (n := 2) (ck_at dt_Fl_clear 32 rfl) rfl rfl (fun _ => rfl) rfl rfl ?_
    refine y_icmp (t := 66) (ck_at dt_Fl_clear 33 rfl) rfl p7 p8 ?_ ?_
    · intro q; have w := w.1 q
      obtain ⟨p9, p10, p11, p12, w⟩ := w
      refine y_ldk (ok := q_isA) (n := 0) (ck_at dt_Fl_clear 40 rfl) rfl rfl (fun _ => rfl) rfl rfl ?_
      refine y_ldk (ok := q_isI) (n := 3) (ck_at dt_Fl_clear 41 rfl) rfl rfl (fun _ => rfl) rfl rfl ?_
      refine y_newa (ck_at dt_Fl_clear 42 rfl) ⟨p9, p10, p11, ?_⟩
      refine y_putR (K := 2) (j := 0) (a := 105) (ck_at dt_Fl_clear 43 rfl) own_Fl_clear (cf_at 4 rfl) rfl rfl rfl rfl rfl rfl ⟨⟨SH.o p12 ⟨by decide, by decide, by decide⟩, by decide⟩, ?_⟩
      have hS13 := SH_u2 (b := 105) (x := 0) (z := (((B 2000000000 0).toNat : Nat) : Int)) p12 (by decide)
      exact y_ret0 (ck_at dt_Fl_clear 44 rfl) rt_Fl_clear w
    · intro q; have w := w.2 q
      refine y_ldk (ok := q_isI) (n := 3) (ck_at dt_Fl_clear 34 rfl) rfl rfl (fun _ => rfl) rfl rfl ?_
      refine y_op (ck_at dt_Fl_clear 35 rfl) rfl (o_const _) ?_
      refine y_op (ck_at dt_Fl_clear 36 rfl) rfl o_imul ?_
      refine y_st1 (ok := q_isI) (n := 3) (L' := [some (.ref 105), none, some (iv x2), some (iv (x3 * 2)), some (iv x4)]) (ck_at dt_Fl_clear 37 rfl) rfl (fun _ => rfl) (fun _ _ => rfl) rfl nl_Fl_clear (by decide) rfl rfl ?_
      refine y_iinc (n := 4) (L' := [some (.ref 105), none, some (iv x2), some (iv (x3 * 2)), some (iv (x4 + 1))]) (ck_at dt_Fl_clear 38 rfl) rfl nl_Fl_clear (by decide) rfl rfl ?_
      refine y_goto (t := 44) (ck_at dt_Fl_clear 39 rfl) rfl ?_
      exact y_wk w ⟨rfl, ⟨rfl, ⟨rfl, ⟨rfl, trivial⟩⟩⟩⟩
def c_Fl_clear_34 (h1 : qH) (d : Nat) (B : qB) (Q : qO → qB → Prop) : Prop := Q (.inl none) B
theorem c_Fl_clear_34_ok {h1 : qH} {d : Nat} {B : qB} {Q : qO → qB → Prop} (hd : 0 ≤ d) (hS : SH B) (w : c_Fl_clear_34 h1 d B Q) : qY h1 (d + 1) n_Fl_clear 34 [none, none, none, none, none] [] B Q := by
  unfold c_Fl_clear_34 at w
  exact y_ret0 (ck_at dt_Fl_clear 21 rfl) rt_Fl_clear w
def c_Fl_clear_0 (h1 : qH) (d : Nat) (x1 : Int) (B : qB) (Q : qO → qB → Prop) : Prop := R32 ((iUshr x1 3) + 1) ∧ R32 (max 0 ((iUshr x1 3) + 1)) ∧ isA B 1 ((B 105 0).toNat) (el B ((B 105 0).toNat)) ∧ el B ((B 105 0).toNat) ≤ 67108864 ∧ (B 105 0).toNat < 1000000000 ∧ R32 (min 65536 (max 0 ((iUshr x1 3) + 1))) ∧ R32 (el B ((B 105 0).toNat)) ∧ (min 65536 (max 0 ((iUshr x1 3) + 1)) > el B ((B 105 0).toNat) → qY h1 (d + 1) n_Fl_clear 44 [some (.ref 105), none, some (iv (min 65536 (max 0 ((iUshr x1 3) + 1)))), some (iv (el B ((B 105 0).toNat))), some (iv 0)] [] B Q) ∧ (min 65536 (max 0 ((iUshr x1 3) + 1)) ≤ el B ((B 105 0).toNat) → qY h1 d n_Ar_fill_AIIIIV 0 [some (.ref ((B 105 0).toNat)), some (iv 0), some (iv (min 65536 (max 0 ((iUshr x1 3) + 1)))), some (iv 0), none] [] B (fun o B' => o = .inl none ∧ SH B' ∧ c_Fl_clear_34 h1 d B' Q))
theorem c_Fl_clear_0_ok {h1 : qH} {d : Nat} {x1 : Int} {B : qB} {Q : qO → qB → Prop} (hd : 0 ≤ d) (hS : SH B) (w : c_Fl_clear_0 h1 d x1 B Q) : qY h1 (d + 1) n_Fl_clear 0 [some (.ref 105), some (iv x1), none, none, none] [] B Q := by
  unfold c_Fl_clear_0 at w
  obtain ⟨p1, p2, p3, p4, p5, p6, p7, w⟩ := w
  refine y_ldc (c := 65536) (ck_at dt_Fl_clear 0 rfl) own_Fl_clear (by decide +kernel) ?_
  refine y_op (ck_at dt_Fl_clear 1 rfl) rfl (o_const _) ?_
  refine y_ldk (ok := q_isI) (n := 1) (ck_at dt_Fl_clear 2 rfl) rfl rfl (fun _ => rfl) rfl rfl ?_
  refine y_op (ck_at dt_Fl_clear 3 rfl) rfl (o_const _) ?_
  refine y_op (ck_at dt_Fl_clear 4 rfl) rfl o_iushr ?_
  refine y_op (ck_at dt_Fl_clear 5 rfl) rfl (o_const _) ?_
  refine y_op (ck_at dt_Fl_clear 6 rfl) rfl o_iadd ?_
  refine y_mm (b := true) (ck_at dt_Fl_clear 7 rfl) own_Fl_clear (by decide +kernel) rfl ⟨by decide, by decide⟩ p1 ?_
  rw [if_pos rfl]
  refine y_mm (b := false) (ck_at dt_Fl_clear 8 rfl) own_Fl_clear (by decide +kernel) rfl ⟨by decide, by decide⟩ p2 ?_
  rw [if_neg (by decide)]
  refine y_st1 (ok := q_isI) (n := 2) (L' := [some (.ref 105), some (iv x1), some (iv (min 65536 (max 0 ((iUshr x1 3) + 1)))), none, none]) (ck_at dt_Fl_clear 9 rfl) rfl (fun _ => rfl) (fun _ _ => rfl) rfl nl_Fl_clear (by decide) rfl rfl ?_
  refine y_ldk (ok := q_isI) (n := 2) (ck_at dt_Fl_clear 10 rfl) rfl rfl (fun _ => rfl) rfl rfl ?_
  refine y_ldk (ok := q_isA) (n := 0) (ck_at dt_Fl_clear 11 rfl) rfl rfl (fun _ => rfl) rfl rfl ?_
  refine y_getD (K := 2) (j := 0) (a := 105) (ck_at dt_Fl_clear 12 rfl) own_Fl_clear (cf_at 4 rfl) rfl rfl rfl ⟨(SH.o hS ⟨by decide, by decide, by decide⟩), ?_⟩
  refine y_alen (ck_at dt_Fl_clear 13 rfl) ⟨1, el B ((B 105 0).toNat), p3, p4, ?_⟩
  refine y_icmp (t := 35) (ck_at dt_Fl_clear 14 rfl) rfl p6 p7 ?_ ?_
  · intro q; have w := w.1 q
    refine y_ldk (ok := q_isA) (n := 0) (ck_at dt_Fl_clear 22 rfl) rfl rfl (fun _ => rfl) rfl rfl ?_
    refine y_getD (K := 2) (j := 0) (a := 105) (ck_at dt_Fl_clear 23 rfl) own_Fl_clear (cf_at 4 rfl) rfl rfl rfl ⟨(SH.o hS ⟨by decide, by decide, by decide⟩), ?_⟩
    refine y_alen (ck_at dt_Fl_clear 24 rfl) ⟨1, el B ((B 105 0).toNat), p3, p4, ?_⟩
    refine y_st1 (ok := q_isI) (n := 3) (L' := [some (.ref 105), some (iv x1), some (iv (min 65536 (max 0 ((iUshr x1 3) + 1)))), some (iv (el B ((B 105 0).toNat))), none]) (ck_at dt_Fl_clear 25 rfl) rfl (fun _ => rfl) (fun _ _ => rfl) rfl nl_Fl_clear (by decide) rfl rfl ?_
    refine y_op (ck_at dt_Fl_clear 26 rfl) rfl (o_const _) ?_
    refine y_st1 (ok := q_isI) (n := 4) (L' := [some (.ref 105), some (iv x1), some (iv (min 65536 (max 0 ((iUshr x1 3) + 1)))), some (iv (el B ((B 105 0).toNat))), some (iv 0)]) (ck_at dt_Fl_clear 27 rfl) rfl (fun _ => rfl) (fun _ _ => rfl) rfl nl_Fl_clear (by decide) rfl rfl ?_
    exact y_wk w ⟨rfl, ⟨rfl, ⟨rfl, ⟨rfl, trivial⟩⟩⟩⟩
  · intro q; have w := w.2 q
    refine y_ldk (ok := q_isA) (n := 0) (ck_at dt_Fl_clear 15 rfl) rfl rfl (fun _ => rfl) rfl rfl ?_
    refine y_getD (K := 2) (j := 0) (a := 105) (ck_at dt_Fl_clear 16 rfl) own_Fl_clear (cf_at 4 rfl) rfl rfl rfl ⟨(SH.o hS ⟨by decide, by decide, by decide⟩), ?_⟩
    refine y_op (ck_at dt_Fl_clear 17 rfl) rfl (o_const _) ?_
    refine y_ldk (ok := q_isI) (n := 2) (ck_at dt_Fl_clear 18 rfl) rfl rfl (fun _ => rfl) rfl rfl ?_
    refine y_op (ck_at dt_Fl_clear 19 rfl) rfl (o_const _) ?_
    refine y_stat (k' := n_Ar_fill_AIIIIV) (n := 1) (as := [.ref ((B 105 0).toNat), iv 0, iv (min 65536 (max 0 ((iUshr x1 3) + 1))), iv 0]) (r := []) (ck_at dt_Fl_clear 20 rfl) own_Fl_clear (cm_at 21 rfl) (cs_at 0 rfl) vk_Ar_fill_AIIIIV rfl nl_Ar_fill_AIIIIV rfl rfl rfl rfl ?_
    exact w.mono (Nat.le_refl _) (fun o B' ⟨ho, hS', w⟩ => Or.inl ⟨none, ho, y_wk (c_Fl_clear_34_ok (by omega) hS' w) trivial⟩)
/-! PatternTrier$Pile.push(I)V -/
def t_Pi_push : List (Nat × Instr × Nat) := [(0, .aload_n 0, 1), (1, .getfield 13, 3), (4, .aload_n 0, 1), (5, .getfield 9, 3), (8, .arraylength, 1), (9, .if_icmp .lt 31, 3), (12, .aload_n 0, 1), (13, .getfield 9, 3), (16, .arraylength, 1), (17, .ldc 17, 2), (19, .if_icmp .ge 21, 3), (22, .aload_n 0, 1), (23, .aload_n 0, 1), (24, .getfield 9, 3), (27, .aload_n 0, 1), (28, .getfield 9, 3), (31, .arraylength, 1), (32, .iconst 2, 1), (33, .imul, 1), (34, .invokestatic 18, 3), (37, .putfield 9, 3), (40, .aload_n 0, 1), (41, .getfield 13, 3), (44, .ifCond .lt 35, 3), (47, .aload_n 0, 1), (48, .getfield 13, 3), (51, .aload_n 0, 1), (52, .getfield 9, 3), (55, .arraylength, 1), (56, .if_icmp .ge 23, 3), (59, .aload_n 0, 1), (60, .getfield 9, 3), (63, .aload_n 0, 1), (64, .getfield 13, 3), (67, .iload_n 1, 1), (68, .iastore, 1), (69, .aload_n 0, 1), (70, .dup, 1), (71, .getfield 13, 3), (74, .iconst 1, 1), (75, .iadd, 1), (76, .putfield 13, 3), (79, .return_, 1)]
set_option maxRecDepth 100000 in
theorem dt_Pi_push : q_ck n_Pi_push t_Pi_push = true := by decide +kernel
def c_Pi_push_40 (h1 : qH) (d : Nat) (x1 : Int) (B : qB) (Q : qO → qB → Prop) : Prop := R32 (B 103 1) ∧ (B 103 1 < 0 → Q (.inl none) B) ∧ (B 103 1 ≥ 0 → isA B 1 ((B 103 0).toNat) (el B ((B 103 0).toNat)) ∧ el B ((B 103 0).toNat) ≤ 67108864 ∧ (B 103 0).toNat < 1000000000 ∧ R32 (el B ((B 103 0).toNat)) ∧ (B 103 1 ≥ el B ((B 103 0).toNat) → Q (.inl none) B) ∧ (B 103 1 < el B ((B 103 0).toNat) → 0 ≤ B 103 1 ∧ B 103 1 < el B ((B 103 0).toNat) ∧ Q (.inl none) (u2 (u2 B ((B 103 0).toNat) (B 103 1) x1) 103 1 (((u2 B ((B 103 0).toNat) (B 103 1) x1) 103 1) + 1))))
theorem c_Pi_push_40_ok {h1 : qH} {d : Nat} {x1 : Int} {B : qB} {Q : qO → qB → Prop} (hd : 0 ≤ d) (hS : SH B) (w : c_Pi_push_40 h1 d x1 B Q) : qY h1 (d + 1) n_Pi_push 40 [some (.ref 103), some (iv x1)] [] B Q := by
  unfold c_Pi_push_40 at w
  obtain ⟨p1, w⟩ := w
  refine y_ldk (ok := q_isA) (n := 0) (ck_at dt_Pi_push 21 rfl) rfl rfl (fun _ => rfl) rfl rfl ?_
  refine y_getI (K := 4) (j := 1) (a := 103) (ck_at dt_Pi_push 22 rfl) own_Pi_push (cf_at 8 rfl) rfl rfl rfl ⟨(SH.o hS ⟨by decide, by decide, by decide⟩), ?_⟩
  refine y_ifz (t := 79) (ck_at dt_Pi_push 23 rfl) rfl p1 ?_ ?_
  · intro q; have w := w.1 q
    exact y_ret0 (ck_at dt_Pi_push 42 rfl) rt_Pi_push w
  · intro q; have w := w.2 q
    obtain ⟨p2, p3, p4, p5, w⟩ := w
    refine y_ldk (ok := q_isA) (n := 0) (ck_at dt_Pi_push 24 rfl) rfl rfl (fun _ => rfl) rfl rfl ?_
    refine y_getI (K := 4) (j := 1) (a := 103) (ck_at dt_Pi_push 25 rfl) own_Pi_push (cf_at 8 rfl) rfl rfl rfl ⟨(SH.o hS ⟨by decide, by decide, by decide⟩), ?_⟩
    refine y_ldk (ok := q_isA) (n := 0) (ck_at dt_Pi_push 26 rfl) rfl rfl (fun _ => rfl) rfl rfl ?_
    refine y_getD (K := 4) (j := 0) (a := 103) (ck_at dt_Pi_push 27 rfl) own_Pi_push (cf_at 7 rfl) rfl rfl rfl ⟨(SH.o hS ⟨by decide, by decide, by decide⟩), ?_⟩
    refine y_alen (ck_at dt_Pi_push 28 rfl) ⟨1, el B ((B 103 0).toNat), p2, p3, ?_⟩
    refine y_icmp (t := 79) (ck_at dt_Pi_push 29 rfl) rfl p1 p5 ?_ ?_
    · intro q; have w := w.1 q
      exact y_ret0 (ck_at dt_Pi_push 42 rfl) rt_Pi_push w
    · intro q; have w := w.2 q
      obtain ⟨p6, p7, w⟩ := w
      refine y_ldk (ok := q_isA) (n := 0) (ck_at dt_Pi_push 30 rfl) rfl rfl (fun _ => rfl) rfl rfl ?_
      refine y_getD (K := 4) (j := 0) (a := 103) (ck_at dt_Pi_push 31 rfl) own_Pi_push (cf_at 7 rfl) rfl rfl rfl ⟨(SH.o hS ⟨by decide, by decide, by decide⟩), ?_⟩
      refine y_ldk (ok := q_isA) (n := 0) (ck_at dt_Pi_push 32 rfl) rfl rfl (fun _ => rfl) rfl rfl ?_
      refine y_getI (K := 4) (j := 1) (a := 103) (ck_at dt_Pi_push 33 rfl) own_Pi_push (cf_at 8 rfl) rfl rfl rfl ⟨(SH.o hS ⟨by decide, by decide, by decide⟩), ?_⟩
      refine y_ldk (ok := q_isI) (n := 1) (ck_at dt_Pi_push 34 rfl) rfl rfl (fun _ => rfl) rfl rfl ?_
      refine y_iast (ck_at dt_Pi_push 35 rfl) ⟨el B ((B 103 0).toNat), p2, p3, p6, p7, p4, ?_⟩
      have hS8 := SH_u2 (b := (B 103 0).toNat) (x := B 103 1) (z := x1) hS p6
      refine y_ldk (ok := q_isA) (n := 0) (ck_at dt_Pi_push 36 rfl) rfl rfl (fun _ => rfl) rfl rfl ?_
      refine y_op (ck_at dt_Pi_push 37 rfl) rfl rfl ?_
      refine y_getI (K := 4) (j := 1) (a := 103) (ck_at dt_Pi_push 38 rfl) own_Pi_push (cf_at 8 rfl) rfl rfl rfl ⟨(SH.o hS8 ⟨by decide, by decide, by decide⟩), ?_⟩
      refine y_op (ck_at dt_Pi_push 39 rfl) rfl (o_const _) ?_
      refine y_op (ck_at dt_Pi_push 40 rfl) rfl o_iadd ?_
      refine y_putI (K := 4) (j := 1) (a := 103) (ck_at dt_Pi_push 41 rfl) own_Pi_push (cf_at 8 rfl) rfl rfl rfl rfl rfl ⟨⟨SH.o hS8 ⟨by decide, by decide, by decide⟩, by decide⟩, ?_⟩
      have hS9 := SH_u2 (b := 103) (x := 1) (z := ((u2 B ((B 103 0).toNat) (B 103 1) x1) 103 1) + 1) hS8 (by decide)
      exact y_ret0 (ck_at dt_Pi_push 42 rfl) rt_Pi_push w
def c_Pi_push_37 (h1 : qH) (d : Nat) (x1 : Int) (r1 : Nat) (n1 : Int) (B : qB) (Q : qO → qB → Prop) : Prop := c_Pi_push_40 h1 d x1 (u2 B 103 0 ((r1 : Nat) : Int)) Q
theorem c_Pi_push_37_ok {h1 : qH} {d : Nat} {x1 : Int} {r1 : Nat} {n1 : Int} {B : qB} {Q : qO → qB → Prop} (hd : 0 ≤ d) (hS : SH B) (hA1 : isA B 1 r1 n1) (hA1n : n1 ≤ 67108864) (hA1l : r1 < 1000000000) (w : c_Pi_push_37 h1 d x1 r1 n1 B Q) : qY h1 (d + 1) n_Pi_push 37 [some (.ref 103), some (iv x1)] [.ref r1, .ref 103] B Q := by
  unfold c_Pi_push_37 at w
  refine y_putR (K := 4) (j := 0) (a := 103) (ck_at dt_Pi_push 20 rfl) own_Pi_push (cf_at 7 rfl) rfl rfl rfl rfl rfl rfl ⟨⟨SH.o hS ⟨by decide, by decide, by decide⟩, by decide⟩, ?_⟩
  have hS1 := SH_u2 (b := 103) (x := 0) (z := ((r1 : Nat) : Int)) hS (by decide)
  exact y_wk (c_Pi_push_40_ok (by omega) hS1 w) ⟨rfl, ⟨rfl, trivial⟩⟩
def c_Pi_push_0 (h1 : qH) (d : Nat) (x1 : Int) (B : qB) (Q : qO → qB → Prop) : Prop := isA B 1 ((B 103 0).toNat) (el B ((B 103 0).toNat)) ∧ el B ((B 103 0).toNat) ≤ 67108864 ∧ (B 103 0).toNat < 1000000000 ∧ R32 (B 103 1) ∧ R32 (el B ((B 103 0).toNat)) ∧ (B 103 1 < el B ((B 103 0).toNat) → c_Pi_push_40 h1 d x1 B Q) ∧ (B 103 1 ≥ el B ((B 103 0).toNat) → (el B ((B 103 0).toNat) ≥ 1048576 → c_Pi_push_40 h1 d x1 B Q) ∧ (el B ((B 103 0).toNat) < 1048576 → qY h1 d n_Ar_copyOf 0 [some (.ref ((B 103 0).toNat)), some (iv ((el B ((B 103 0).toNat)) * 2)), none] [] B (fun o B' => ∃ (v : Nat) (nv : Int), o = .inl (some (.ref v)) ∧ isA B' 1 v nv ∧ nv ≤ 67108864 ∧ v < 1000000000 ∧ SH B' ∧ c_Pi_push_37 h1 d x1 v nv B' Q)))
theorem c_Pi_push_0_ok {h1 : qH} {d : Nat} {x1 : Int} {B : qB} {Q : qO → qB → Prop} (hd : 0 ≤ d) (hS : SH B) (w : c_Pi_push_0 h1 d x1 B Q) : qY h1 (d + 1) n_Pi_push 0 [some (.ref 103), some (iv x1)] [] B Q := by
  unfold c_Pi_push_0 at w
  obtain ⟨p1, p2, p3, p4, p5, w⟩ := w
  refine y_ldk (ok := q_isA) (n := 0) (ck_at dt_Pi_push 0 rfl) rfl rfl (fun _ => rfl) rfl rfl ?_
  refine y_getI (K := 4) (j := 1) (a := 103) (ck_at dt_Pi_push 1 rfl) own_Pi_push (cf_at 8 rfl) rfl rfl rfl ⟨(SH.o hS ⟨by decide, by decide, by decide⟩), ?_⟩
  refine y_ldk (ok := q_isA) (n := 0) (ck_at dt_Pi_push 2 rfl) rfl rfl (fun _ => rfl) rfl rfl ?_
  refine y_getD (K := 4) (j := 0) (a := 103) (ck_at dt_Pi_push 3 rfl) own_Pi_push (cf_at 7 rfl) rfl rfl rfl ⟨(SH.o hS ⟨by decide, by decide, by decide⟩), ?_⟩
  refine y_alen (ck_at dt_Pi_push 4 rfl) ⟨1, el B ((B 103 0).toNat), p1, p2, ?_⟩
  refine y_icmp (t := 40) (ck_at dt_Pi_push 5 rfl) rfl p4 p5 ?_ ?_
  · intro q; have w := w.1 q
    exact y_wk (c_Pi_push_40_ok (by omega) hS w) ⟨rfl, ⟨rfl, trivial⟩⟩
  · intro q; have w := w.2 q
    refine y_ldk (ok := q_isA) (n := 0) (ck_at dt_Pi_push 6 rfl) rfl rfl (fun _ => rfl) rfl rfl ?_
    refine y_getD (K := 4) (j := 0) (a := 103) (ck_at dt_Pi_push 7 rfl) own_Pi_push (cf_at 7 rfl) rfl rfl rfl ⟨(SH.o hS ⟨by decide, by decide, by decide⟩), ?_⟩
    refine y_alen (ck_at dt_Pi_push 8 rfl) ⟨1, el B ((B 103 0).toNat), p1, p2, ?_⟩
    refine y_ldc (c := 1048576) (ck_at dt_Pi_push 9 rfl) own_Pi_push (by decide +kernel) ?_
    refine y_icmp (t := 40) (ck_at dt_Pi_push 10 rfl) rfl p5 ⟨by decide, by decide⟩ ?_ ?_
    · intro q; have w := w.1 q
      exact y_wk (c_Pi_push_40_ok (by omega) hS w) ⟨rfl, ⟨rfl, trivial⟩⟩
    · intro q; have w := w.2 q
      refine y_ldk (ok := q_isA) (n := 0) (ck_at dt_Pi_push 11 rfl) rfl rfl (fun _ => rfl) rfl rfl ?_
      refine y_ldk (ok := q_isA) (n := 0) (ck_at dt_Pi_push 12 rfl) rfl rfl (fun _ => rfl) rfl rfl ?_
      refine y_getD (K := 4) (j := 0) (a := 103) (ck_at dt_Pi_push 13 rfl) own_Pi_push (cf_at 7 rfl) rfl rfl rfl ⟨(SH.o hS ⟨by decide, by decide, by decide⟩), ?_⟩
      refine y_ldk (ok := q_isA) (n := 0) (ck_at dt_Pi_push 14 rfl) rfl rfl (fun _ => rfl) rfl rfl ?_
      refine y_getD (K := 4) (j := 0) (a := 103) (ck_at dt_Pi_push 15 rfl) own_Pi_push (cf_at 7 rfl) rfl rfl rfl ⟨(SH.o hS ⟨by decide, by decide, by decide⟩), ?_⟩
      refine y_alen (ck_at dt_Pi_push 16 rfl) ⟨1, el B ((B 103 0).toNat), p1, p2, ?_⟩
      refine y_op (ck_at dt_Pi_push 17 rfl) rfl (o_const _) ?_
      refine y_op (ck_at dt_Pi_push 18 rfl) rfl o_imul ?_
      refine y_stat (k' := n_Ar_copyOf) (n := 1) (as := [.ref ((B 103 0).toNat), iv ((el B ((B 103 0).toNat)) * 2)]) (r := [.ref 103]) (ck_at dt_Pi_push 19 rfl) own_Pi_push (cm_at 27 rfl) (cs_at 5 rfl) vk_Ar_copyOf rfl nl_Ar_copyOf rfl rfl rfl rfl ?_
      exact w.mono (Nat.le_refl _) (fun o B' ⟨v, nv, ho, hAv, hAvn, hAvl, hS', w⟩ => Or.inl ⟨some (.ref v), ho, y_wk (c_Pi_push_37_ok (by omega) hS' hAv hAvn hAvl w) ⟨rfl, ⟨rfl, trivial⟩⟩⟩)
/-! PatternTrier$Pile.pop()I -/
def t_Pi_pop : List (Nat × Instr × Nat) := [(0, .aload_n 0, 1), (1, .getfield 13, 3), (4, .ifCond .gt 5, 3), (7, .iconst 0, 1), (8, .ireturn, 1), (9, .aload_n 0, 1), (10, .dup, 1), (11, .getfield 13, 3), (14, .iconst 1, 1), (15, .isub, 1), (16, .putfield 13, 3), (19, .aload_n 0, 1), (20, .getfield 9, 3), (23, .aload_n 0, 1), (24, .getfield 13, 3), (27, .invokestatic 24, 3), (30, .ireturn, 1)]
set_option maxRecDepth 100000 in
theorem dt_Pi_pop : q_ck n_Pi_pop t_Pi_pop = true := by decide +kernel
def c_Pi_pop_0 (h1 : qH) (d : Nat) (B : qB) (Q : qO → qB → Prop) : Prop := R32 (B 103 1) ∧ (B 103 1 > 0 → isA (u2 B 103 1 ((B 103 1) - 1)) 1 ((B 103 0).toNat) (el (u2 B 103 1 ((B 103 1) - 1)) ((B 103 0).toNat)) ∧ el (u2 B 103 1 ((B 103 1) - 1)) ((B 103 0).toNat) ≤ 67108864 ∧ (B 103 0).toNat < 1000000000 ∧ 0 ≤ ((B 103 1) - 1) ∧ ((B 103 1) - 1) < el (u2 B 103 1 ((B 103 1) - 1)) ((B 103 0).toNat) ∧ Q (.inl (some (iv ((u2 B 103 1 ((B 103 1) - 1)) ((B 103 0).toNat) ((B 103 1) - 1))))) (u2 B 103 1 ((B 103 1) - 1))) ∧ (B 103 1 ≤ 0 → Q (.inl (some (iv 0))) B)
theorem c_Pi_pop_0_ok {h1 : qH} {d : Nat} {B : qB} {Q : qO → qB → Prop} (hd : 1 ≤ d) (hS : SH B) (w : c_Pi_pop_0 h1 d B Q) : qY h1 (d + 1) n_Pi_pop 0 [some (.ref 103)] [] B Q := by
  unfold c_Pi_pop_0 at w
  obtain ⟨p1, w⟩ := w
  refine y_ldk (ok := q_isA) (n := 0) (ck_at dt_Pi_pop 0 rfl) rfl rfl (fun _ => rfl) rfl rfl ?_
  refine y_getI (K := 4) (j := 1) (a := 103) (ck_at dt_Pi_pop 1 rfl) own_Pi_pop (cf_at 8 rfl) rfl rfl rfl ⟨(SH.o hS ⟨by decide, by decide, by decide⟩), ?_⟩
  refine y_ifz (t := 9) (ck_at dt_Pi_pop 2 rfl) rfl p1 ?_ ?_
  · intro q; have w := w.1 q
    obtain ⟨p3, p4, p5, p6, p7, w⟩ := w
    refine y_ldk (ok := q_isA) (n := 0) (ck_at dt_Pi_pop 5 rfl) rfl rfl (fun _ => rfl) rfl rfl ?_
    refine y_op (ck_at dt_Pi_pop 6 rfl) rfl rfl ?_
    refine y_getI (K := 4) (j := 1) (a := 103) (ck_at dt_Pi_pop 7 rfl) own_Pi_pop (cf_at 8 rfl) rfl rfl rfl ⟨(SH.o hS ⟨by decide, by decide, by decide⟩), ?_⟩
    refine y_op (ck_at dt_Pi_pop 8 rfl) rfl (o_const _) ?_
    refine y_op (ck_at dt_Pi_pop 9 rfl) rfl o_isub ?_
    refine y_putI (K := 4) (j := 1) (a := 103) (ck_at dt_Pi_pop 10 rfl) own_Pi_pop (cf_at 8 rfl) rfl rfl rfl rfl rfl ⟨⟨SH.o hS ⟨by decide, by decide, by decide⟩, by decide⟩, ?_⟩
    have hS2 := SH_u2 (b := 103) (x := 1) (z := (B 103 1) - 1) hS (by decide)
    refine y_ldk (ok := q_isA) (n := 0) (ck_at dt_Pi_pop 11 rfl) rfl rfl (fun _ => rfl) rfl rfl ?_
    refine y_getD (K := 4) (j := 0) (a := 103) (ck_at dt_Pi_pop 12 rfl) own_Pi_pop (cf_at 7 rfl) rfl rfl rfl ⟨(SH.o hS2 ⟨by decide, by decide, by decide⟩), ?_⟩
    refine y_ldk (ok := q_isA) (n := 0) (ck_at dt_Pi_pop 13 rfl) rfl rfl (fun _ => rfl) rfl rfl ?_
    refine y_getI (K := 4) (j := 1) (a := 103) (ck_at dt_Pi_pop 14 rfl) own_Pi_pop (cf_at 8 rfl) rfl rfl rfl ⟨(SH.o hS2 ⟨by decide, by decide, by decide⟩), ?_⟩
    refine y_stat3P (k' := n_P_cell) (n := 0) (as := [.ref ((B 103 0).toNat), iv ((B 103 1) - 1)]) (r := []) (ck_at dt_Pi_pop 15 rfl) own_Pi_pop (cm_at 28 rfl) (cs_at 6 rfl) vk_P_cell rfl nl_P_cell rfl rfl rfl rfl  (Y_P_cell (by omega) hS2 p3 p4 p6 p7 ⟨rfl, rfl⟩) ?_
    exact y_retI (ck_at dt_Pi_pop 16 rfl) rt_Pi_pop w
  · intro q; have w := w.2 q
    refine y_op (ck_at dt_Pi_pop 3 rfl) rfl (o_const _) ?_
    exact y_retI (ck_at dt_Pi_pop 4 rfl) rt_Pi_pop w
/-! PatternTrier$Pile.dropWays(I)V -/
def t_Pi_dropWays : List (Nat × Instr × Nat) := [(0, .iload_n 1, 1), (1, .istore_n 2, 1), (2, .iconst 0, 1), (3, .istore_n 3, 1), (4, .iload_n 1, 1), (5, .istore 4, 2), (7, .iload 4, 2), (9, .aload_n 0, 1), (10, .getfield 13, 3), (13, .if_icmp .ge 65, 3), (16, .aload_n 0, 1), (17, .getfield 9, 3), (20, .iload 4, 2), (22, .invokestatic 24, 3), (25, .istore 5, 2), (27, .iload 5, 2), (29, .invokestatic 30, 3), (32, .istore 6, 2), (34, .iload 5, 2), (36, .invokestatic 34, 3), (39, .iconst 2, 1), (40, .if_icmp .ne 32, 3), (43, .iload_n 3, 1), (44, .iload 6, 2), (46, .iushr, 1), (47, .iconst 1, 1), (48, .iand, 1), (49, .ifCond .ne 23, 3), (52, .iload_n 3, 1), (53, .iconst 1, 1), (54, .iload 6, 2), (56, .ishl, 1), (57, .ior, 1), (58, .istore_n 3, 1), (59, .aload_n 0, 1), (60, .getfield 9, 3), (63, .iload_n 2, 1), (64, .iload 5, 2), (66, .invokestatic 37, 3), (69, .iinc 2 1, 3), (72, .iinc 4 1, 3), (75, .goto (-68), 3), (78, .aload_n 0, 1), (79, .aload_n 0, 1), (80, .getfield 13, 3), (83, .iconst 0, 1), (84, .iload_n 2, 1), (85, .invokestatic 41, 3), (88, .invokestatic 47, 3), (91, .putfield 13, 3), (94, .return_, 1)]
set_option maxRecDepth 100000 in
theorem dt_Pi_dropWays : q_ck n_Pi_dropWays t_Pi_dropWays = true := by decide +kernel
def c_Pi_dropWays_72 (h1 : qH) (d : Nat) (x2 : Int) (x3 : Int) (x4 : Int) (B : qB) (Q : qO → qB → Prop) : Prop := qY h1 (d + 1) n_Pi_dropWays 7 [some (.ref 103), none, some (iv x2), some (iv x3), some (iv (x4 + 1)), none, none] [] B Q
theorem c_Pi_dropWays_72_ok {h1 : qH} {d : Nat} {x2 : Int} {x3 : Int} {x4 : Int} {B : qB} {Q : qO → qB → Prop} (hd : 1 ≤ d) (hS : SH B) (w : c_Pi_dropWays_72 h1 d x2 x3 x4 B Q) : qY h1 (d + 1) n_Pi_dropWays 72 [some (.ref 103), none, some (iv x2), some (iv x3), some (iv x4), none, none] [] B Q := by
  unfold c_Pi_dropWays_72 at w
  refine y_iinc (n := 4) (L' := [some (.ref 103), none, some (iv x2), some (iv x3), some (iv (x4 + 1)), none, none]) (ck_at dt_Pi_dropWays 40 rfl) rfl nl_Pi_dropWays (by decide) rfl rfl ?_
  refine y_goto (t := 7) (ck_at dt_Pi_dropWays 41 rfl) rfl ?_
  exact y_wk w ⟨rfl, ⟨rfl, ⟨rfl, ⟨rfl, trivial⟩⟩⟩⟩
def c_Pi_dropWays_7 (h1 : qH) (d : Nat) (x2 : Int) (x3 : Int) (x4 : Int) (B : qB) (Q : qO → qB → Prop) : Prop := R32 x4 ∧ R32 (B 103 1) ∧ (x4 ≥ B 103 1 → R32 x2 ∧ R32 (max 0 x2) ∧ Q (.inl none) (u2 B 103 1 (min (B 103 1) (max 0 x2)))) ∧ (x4 < B 103 1 → isA B 1 ((B 103 0).toNat) (el B ((B 103 0).toNat)) ∧ el B ((B 103 0).toNat) ≤ 67108864 ∧ (B 103 0).toNat < 1000000000 ∧ 0 ≤ x4 ∧ x4 < el B ((B 103 0).toNat) ∧ enO (B ((B 103 0).toNat) x4) ∧ R32 ((B ((B 103 0).toNat) x4) / 16777216) ∧ (¬ (B ((B 103 0).toNat) x4) / 16777216 = 2 → c_Pi_dropWays_72 h1 d x2 x3 x4 B Q) ∧ ((B ((B 103 0).toNat) x4) / 16777216 = 2 → (¬ iAnd (iUshr x3 ((B ((B 103 0).toNat) x4) / 16384 % 1024)) 1 = 0 → c_Pi_dropWays_72 h1 d x2 x3 x4 B Q) ∧ (iAnd (iUshr x3 ((B ((B 103 0).toNat) x4) / 16384 % 1024)) 1 = 0 → 0 ≤ x2 ∧ x2 < el B ((B 103 0).toNat) ∧ c_Pi_dropWays_72 h1 d (x2 + 1) (iOr x3 (iShl 1 ((B ((B 103 0).toNat) x4) / 16384 % 1024))) x4 (u2 B ((B 103 0).toNat) x2 (B ((B 103 0).toNat) x4)) Q)))
theorem c_Pi_dropWays_7_ok {h1 : qH} {d : Nat} {x2 : Int} {x3 : Int} {x4 : Int} {B : qB} {Q : qO → qB → Prop} (hd : 1 ≤ d) (hS : SH B) (w : c_Pi_dropWays_7 h1 d x2 x3 x4 B Q) : qY h1 (d + 1) n_Pi_dropWays 7 [some (.ref 103), none, some (iv x2), some (iv x3), some (iv x4), none, none] [] B Q := by
  unfold c_Pi_dropWays_7 at w
  obtain ⟨p1, p2, w⟩ := w
  refine y_ldk (ok := q_isI) (n := 4) (ck_at dt_Pi_dropWays 6 rfl) rfl rfl (fun _ => rfl) rfl rfl ?_
  refine y_ldk (ok := q_isA) (n := 0) (ck_at dt_Pi_dropWays 7 rfl) rfl rfl (fun _ => rfl) rfl rfl ?_
  refine y_getI (K := 4) (j := 1) (a := 103) (ck_at dt_Pi_dropWays 8 rfl) own_Pi_dropWays (cf_at 8 rfl) rfl rfl rfl ⟨(SH.o hS ⟨by decide, by decide, by decide⟩), ?_⟩
  refine y_icmp (t := 78) (ck_at dt_Pi_dropWays 9 rfl) rfl p1 p2 ?_ ?_
  · intro q; have w := w.1 q
    obtain ⟨p3, p4, w⟩ := w
    refine y_ldk (ok := q_isA) (n := 0) (ck_at dt_Pi_dropWays 42 rfl) rfl rfl (fun _ => rfl) rfl rfl ?_
    refine y_ldk (ok := q_isA) (n := 0) (ck_at dt_Pi_dropWays 43 rfl) rfl rfl (fun _ => rfl) rfl rfl ?_
    refine y_getI (K := 4) (j := 1) (a := 103) (ck_at dt_Pi_dropWays 44 rfl) own_Pi_dropWays (cf_at 8 rfl) rfl rfl rfl ⟨(SH.o hS ⟨by decide, by decide, by decide⟩), ?_⟩
    refine y_op (ck_at dt_Pi_dropWays 45 rfl) rfl (o_const _) ?_
    refine y_ldk (ok := q_isI) (n := 2) (ck_at dt_Pi_dropWays 46 rfl) rfl rfl (fun _ => rfl) rfl rfl ?_
    refine y_mm (b := true) (ck_at dt_Pi_dropWays 47 rfl) own_Pi_dropWays (by decide +kernel) rfl ⟨by decide, by decide⟩ p3 ?_
    rw [if_pos rfl]
    refine y_mm (b := false) (ck_at dt_Pi_dropWays 48 rfl) own_Pi_dropWays (by decide +kernel) rfl p2 p4 ?_
    rw [if_neg (by decide)]
    refine y_putI (K := 4) (j := 1) (a := 103) (ck_at dt_Pi_dropWays 49 rfl) own_Pi_dropWays (cf_at 8 rfl) rfl rfl rfl rfl rfl ⟨⟨SH.o hS ⟨by decide, by decide, by decide⟩, by decide⟩, ?_⟩
    have hS5 := SH_u2 (b := 103) (x := 1) (z := min (B 103 1) (max 0 x2)) hS (by decide)
    exact y_ret0 (ck_at dt_Pi_dropWays 50 rfl) rt_Pi_dropWays w
  · intro q; have w := w.2 q
    obtain ⟨p6, p7, p8, p9, p10, p11, p12, w⟩ := w
    refine y_ldk (ok := q_isA) (n := 0) (ck_at dt_Pi_dropWays 10 rfl) rfl rfl (fun _ => rfl) rfl rfl ?_
    refine y_getD (K := 4) (j := 0) (a := 103) (ck_at dt_Pi_dropWays 11 rfl) own_Pi_dropWays (cf_at 7 rfl) rfl rfl rfl ⟨(SH.o hS ⟨by decide, by decide, by decide⟩), ?_⟩
    refine y_ldk (ok := q_isI) (n := 4) (ck_at dt_Pi_dropWays 12 rfl) rfl rfl (fun _ => rfl) rfl rfl ?_
    refine y_stat3P (k' := n_P_cell) (n := 0) (as := [.ref ((B 103 0).toNat), iv x4]) (r := []) (ck_at dt_Pi_dropWays 13 rfl) own_Pi_dropWays (cm_at 28 rfl) (cs_at 6 rfl) vk_P_cell rfl nl_P_cell rfl rfl rfl rfl  (Y_P_cell (by omega) hS p6 p7 p9 p10 ⟨rfl, rfl⟩) ?_
    refine y_st1 (ok := q_isI) (n := 5) (L' := [some (.ref 103), none, some (iv x2), some (iv x3), some (iv x4), some (iv (B ((B 103 0).toNat) x4)), none]) (ck_at dt_Pi_dropWays 14 rfl) rfl (fun _ => rfl) (fun _ _ => rfl) rfl nl_Pi_dropWays (by decide) rfl rfl ?_
    refine y_ldk (ok := q_isI) (n := 5) (ck_at dt_Pi_dropWays 15 rfl) rfl rfl (fun _ => rfl) rfl rfl ?_
    refine y_statP (k' := n_Pi_stepOf) (n := 0) (as := [iv (B ((B 103 0).toNat) x4)]) (r := []) (ck_at dt_Pi_dropWays 16 rfl) own_Pi_dropWays (cm_at 29 rfl) (cs_at 7 rfl) vk_Pi_stepOf rfl nl_Pi_stepOf rfl rfl rfl rfl  (Y_Pi_stepOf (by omega) hS p11 ⟨rfl, rfl⟩) ?_
    refine y_st1 (ok := q_isI) (n := 6) (L' := [some (.ref 103), none, some (iv x2), some (iv x3), some (iv x4), some (iv (B ((B 103 0).toNat) x4)), some (iv ((B ((B 103 0).toNat) x4) / 16384 % 1024))]) (ck_at dt_Pi_dropWays 17 rfl) rfl (fun _ => rfl) (fun _ _ => rfl) rfl nl_Pi_dropWays (by decide) rfl rfl ?_
    refine y_ldk (ok := q_isI) (n := 5) (ck_at dt_Pi_dropWays 18 rfl) rfl rfl (fun _ => rfl) rfl rfl ?_
    refine y_statP (k' := n_Pi_kindOf) (n := 0) (as := [iv (B ((B 103 0).toNat) x4)]) (r := []) (ck_at dt_Pi_dropWays 19 rfl) own_Pi_dropWays (cm_at 30 rfl) (cs_at 8 rfl) vk_Pi_kindOf rfl nl_Pi_kindOf rfl rfl rfl rfl  (Y_Pi_kindOf (by omega) hS p11 ⟨rfl, rfl⟩) ?_
    refine y_op (ck_at dt_Pi_dropWays 20 rfl) rfl (o_const _) ?_
    refine y_icmp (t := 72) (ck_at dt_Pi_dropWays 21 rfl) rfl p12 ⟨by decide, by decide⟩ ?_ ?_
    · intro q; have w := w.1 q
      exact y_wk (c_Pi_dropWays_72_ok (by omega) hS w) ⟨rfl, ⟨rfl, ⟨rfl, ⟨rfl, trivial⟩⟩⟩⟩
    · intro q; have w := w.2 q
      refine y_ldk (ok := q_isI) (n := 3) (ck_at dt_Pi_dropWays 22 rfl) rfl rfl (fun _ => rfl) rfl rfl ?_
      refine y_ldk (ok := q_isI) (n := 6) (ck_at dt_Pi_dropWays 23 rfl) rfl rfl (fun _ => rfl) rfl rfl ?_
      refine y_op (ck_at dt_Pi_dropWays 24 rfl) rfl o_iushr ?_
      refine y_op (ck_at dt_Pi_dropWays 25 rfl) rfl (o_const _) ?_
      refine y_op (ck_at dt_Pi_dropWays 26 rfl) rfl o_iand ?_
      refine y_ifz (t := 72) (ck_at dt_Pi_dropWays 27 rfl) rfl (R32_i _) ?_ ?_
      · intro q; have w := w.1 q
        exact y_wk (c_Pi_dropWays_72_ok (by omega) hS w) ⟨rfl, ⟨rfl, ⟨rfl, ⟨rfl, trivial⟩⟩⟩⟩
      · intro q; have w := w.2 q
        obtain ⟨p13, p14, w⟩ := w
        refine y_ldk (ok := q_isI) (n := 3) (ck_at dt_Pi_dropWays 28 rfl) rfl rfl (fun _ => rfl) rfl rfl ?_
        refine y_op (ck_at dt_Pi_dropWays 29 rfl) rfl (o_const _) ?_
        refine y_ldk (ok := q_isI) (n := 6) (ck_at dt_Pi_dropWays 30 rfl) rfl rfl (fun _ => rfl) rfl rfl ?_
        refine y_op (ck_at dt_Pi_dropWays 31 rfl) rfl o_ishl ?_
        refine y_op (ck_at dt_Pi_dropWays 32 rfl) rfl o_ior ?_
        refine y_st1 (ok := q_isI) (n := 3) (L' := [some (.ref 103), none, some (iv x2), some (iv (iOr x3 (iShl 1 ((B ((B 103 0).toNat) x4) / 16384 % 1024)))), some (iv x4), some (iv (B ((B 103 0).toNat) x4)), some (iv ((B ((B 103 0).toNat) x4) / 16384 % 1024))]) (ck_at dt_Pi_dropWays 33 rfl) rfl (fun _ => rfl) (fun _ _ => rfl) rfl nl_Pi_dropWays (by decide) rfl rfl ?_
        refine y_ldk (ok := q_isA) (n := 0) (ck_at dt_Pi_dropWays 34 rfl) rfl rfl (fun _ => rfl) rfl rfl ?_
        refine y_getD (K := 4) (j := 0) (a := 103) (ck_at dt_Pi_dropWays 35 rfl) own_Pi_dropWays (cf_at 7 rfl) rfl rfl rfl ⟨(SH.o hS ⟨by decide, by decide, by decide⟩), ?_⟩
        refine y_ldk (ok := q_isI) (n := 2) (ck_at dt_Pi_dropWays 36 rfl) rfl rfl (fun _ => rfl) rfl rfl ?_
        refine y_ldk (ok := q_isI) (n := 5) (ck_at dt_Pi_dropWays 37 rfl) rfl rfl (fun _ => rfl) rfl rfl ?_
        refine y_stat3V (k' := n_P_put) (n := 0) (as := [.ref ((B 103 0).toNat), iv x2, iv (B ((B 103 0).toNat) x4)]) (r := []) (ck_at dt_Pi_dropWays 38 rfl) own_Pi_dropWays (cm_at 31 rfl) (cs_at 9 rfl) vk_P_put rfl nl_P_put rfl rfl rfl rfl  (Y_P_put (by omega) hS p6 p7 p8 p13 p14 ⟨rfl, rfl⟩) ?_
        have hS15 := SH_u2 (b := ((B 103 0).toNat)) (x := x2) (z := (B ((B 103 0).toNat) x4)) hS p13
        refine y_iinc (n := 2) (L' := [some (.ref 103), none, some (iv (x2 + 1)), some (iv (iOr x3 (iShl 1 ((B ((B 103 0).toNat) x4) / 16384 % 1024)))), some (iv x4), some (iv (B ((B 103 0).toNat) x4)), some (iv ((B ((B 103 0).toNat) x4) / 16384 % 1024))]) (ck_at dt_Pi_dropWays 39 rfl) rfl nl_Pi_dropWays (by decide) trivial rfl ?_
        exact y_wk (c_Pi_dropWays_72_ok (by omega) hS15 w) ⟨rfl, ⟨rfl, ⟨rfl, ⟨rfl, trivial⟩⟩⟩⟩
def c_Pi_dropWays_0 (h1 : qH) (d : Nat) (x1 : Int) (B : qB) (Q : qO → qB → Prop) : Prop := qY h1 (d + 1) n_Pi_dropWays 7 [some (.ref 103), none, some (iv x1), some (iv 0), some (iv x1), none, none] [] B Q
theorem c_Pi_dropWays_0_ok {h1 : qH} {d : Nat} {x1 : Int} {B : qB} {Q : qO → qB → Prop} (hd : 1 ≤ d) (hS : SH B) (w : c_Pi_dropWays_0 h1 d x1 B Q) : qY h1 (d + 1) n_Pi_dropWays 0 [some (.ref 103), some (iv x1), none, none, none, none, none] [] B Q := by
  unfold c_Pi_dropWays_0 at w
  refine y_ldk (ok := q_isI) (n := 1) (ck_at dt_Pi_dropWays 0 rfl) rfl rfl (fun _ => rfl) rfl rfl ?_
  refine y_st1 (ok := q_isI) (n := 2) (L' := [some (.ref 103), some (iv x1), some (iv x1), none, none, none, none]) (ck_at dt_Pi_dropWays 1 rfl) rfl (fun _ => rfl) (fun _ _ => rfl) rfl nl_Pi_dropWays (by decide) rfl rfl ?_
  refine y_op (ck_at dt_Pi_dropWays 2 rfl) rfl (o_const _) ?_
  refine y_st1 (ok := q_isI) (n := 3) (L' := [some (.ref 103), some (iv x1), some (iv x1), some (iv 0), none, none, none]) (ck_at dt_Pi_dropWays 3 rfl) rfl (fun _ => rfl) (fun _ _ => rfl) rfl nl_Pi_dropWays (by decide) rfl rfl ?_
  refine y_ldk (ok := q_isI) (n := 1) (ck_at dt_Pi_dropWays 4 rfl) rfl rfl (fun _ => rfl) rfl rfl ?_
  refine y_st1 (ok := q_isI) (n := 4) (L' := [some (.ref 103), some (iv x1), some (iv x1), some (iv 0), some (iv x1), none, none]) (ck_at dt_Pi_dropWays 5 rfl) rfl (fun _ => rfl) (fun _ _ => rfl) rfl nl_Pi_dropWays (by decide) rfl rfl ?_
  exact y_wk w ⟨rfl, ⟨rfl, ⟨rfl, ⟨rfl, trivial⟩⟩⟩⟩
/-! PatternTrier$Walker.take()Z -/
def t_Wa_take : List (Nat × Instr × Nat) := [(0, .aload_n 0, 1), (1, .dup, 1), (2, .getfield 96, 3), (5, .iconst 1, 1), (6, .iadd, 1), (7, .putfield 96, 3), (10, .aload_n 0, 1), (11, .aload_n 0, 1), (12, .getfield 29, 3), (15, .aload_n 0, 1), (16, .getfield 92, 3), (19, .invokevirtual 148, 3), (22, .putfield 99, 3), (25, .aload_n 0, 1), (26, .invokevirtual 136, 3), (29, .ireturn, 1)]
set_option maxRecDepth 100000 in
theorem dt_Wa_take : q_ck n_Wa_take t_Wa_take = true := by decide +kernel
def c_Wa_take_0 (h1 : qH) (d : Nat) (B : qB) (Q : qO → qB → Prop) : Prop := ob 5 ((B 102 3).toNat) ∧ 0 ≤ (B 102 6) ∧ (B 102 6) < 608 ∧ ob 5 ((u2 (u2 B 102 7 ((B 102 7) + 1)) 102 8 ((u2 B 102 7 ((B 102 7) + 1)) (((B 102 3).toNat) + 5) (B 102 6))) 102 3).toNat ∧ 0 ≤ (u2 (u2 B 102 7 ((B 102 7) + 1)) 102 8 ((u2 B 102 7 ((B 102 7) + 1)) (((B 102 3).toNat) + 5) (B 102 6))) 102 6 ∧ (u2 (u2 B 102 7 ((B 102 7) + 1)) 102 8 ((u2 B 102 7 ((B 102 7) + 1)) (((B 102 3).toNat) + 5) (B 102 6))) 102 6 < 608 ∧ Q (.inl (some (iv 1))) (u2 (u2 (u2 B 102 7 ((B 102 7) + 1)) 102 8 ((u2 B 102 7 ((B 102 7) + 1)) (((B 102 3).toNat) + 5) (B 102 6))) 102 6 ((u2 (u2 B 102 7 ((B 102 7) + 1)) 102 8 ((u2 B 102 7 ((B 102 7) + 1)) (((B 102 3).toNat) + 5) (B 102 6))) (((u2 (u2 B 102 7 ((B 102 7) + 1)) 102 8 ((u2 B 102 7 ((B 102 7) + 1)) (((B 102 3).toNat) + 5) (B 102 6))) 102 3).toNat + 3) ((u2 (u2 B 102 7 ((B 102 7) + 1)) 102 8 ((u2 B 102 7 ((B 102 7) + 1)) (((B 102 3).toNat) + 5) (B 102 6))) 102 6)))
theorem c_Wa_take_0_ok {h1 : qH} {d : Nat} {B : qB} {Q : qO → qB → Prop} (hd : 2 ≤ d) (hS : SH B) (w : c_Wa_take_0 h1 d B Q) : qY h1 (d + 1) n_Wa_take 0 [some (.ref 102)] [] B Q := by
  unfold c_Wa_take_0 at w
  obtain ⟨p2, p3, p4, p6, p7, p8, w⟩ := w
  refine y_ldk (ok := q_isA) (n := 0) (ck_at dt_Wa_take 0 rfl) rfl rfl (fun _ => rfl) rfl rfl ?_
  refine y_op (ck_at dt_Wa_take 1 rfl) rfl rfl ?_
  refine y_getI (K := 9) (j := 7) (a := 102) (ck_at dt_Wa_take 2 rfl) own_Wa_take (cf_at 48 rfl) rfl rfl rfl ⟨(SH.o hS ⟨by decide, by decide, by decide⟩), ?_⟩
  refine y_op (ck_at dt_Wa_take 3 rfl) rfl (o_const _) ?_
  refine y_op (ck_at dt_Wa_take 4 rfl) rfl o_iadd ?_
  refine y_putI (K := 9) (j := 7) (a := 102) (ck_at dt_Wa_take 5 rfl) own_Wa_take (cf_at 48 rfl) rfl rfl rfl rfl rfl ⟨⟨SH.o hS ⟨by decide, by decide, by decide⟩, by decide⟩, ?_⟩
  have hS1 := SH_u2 (b := 102) (x := 7) (z := (B 102 7) + 1) hS (by decide)
  refine y_ldk (ok := q_isA) (n := 0) (ck_at dt_Wa_take 6 rfl) rfl rfl (fun _ => rfl) rfl rfl ?_
  refine y_ldk (ok := q_isA) (n := 0) (ck_at dt_Wa_take 7 rfl) rfl rfl (fun _ => rfl) rfl rfl ?_
  refine y_getD (K := 9) (j := 3) (a := 102) (ck_at dt_Wa_take 8 rfl) own_Wa_take (cf_at 44 rfl) rfl rfl rfl ⟨(SH.o hS1 ⟨by decide, by decide, by decide⟩), ?_⟩
  refine y_ldk (ok := q_isA) (n := 0) (ck_at dt_Wa_take 9 rfl) rfl rfl (fun _ => rfl) rfl rfl ?_
  refine y_getI (K := 9) (j := 6) (a := 102) (ck_at dt_Wa_take 10 rfl) own_Wa_take (cf_at 47 rfl) rfl rfl rfl ⟨(SH.o hS1 ⟨by decide, by decide, by decide⟩), ?_⟩
  refine y_virtP (k' := n_Pr_depthOf) (n := 0) (as := [iv (B 102 6)]) (r := [.ref 102]) (ck_at dt_Wa_take 11 rfl) own_Wa_take (cm_at 109 rfl) vk_Pr_depthOf rfl nl_Pr_depthOf rfl rfl rfl rfl (SH.o hS1 p2) (Y_Pr_depthOf (by omega) hS1 p2 p3 p4 ⟨rfl, rfl⟩) ?_
  refine y_putI (K := 9) (j := 8) (a := 102) (ck_at dt_Wa_take 12 rfl) own_Wa_take (cf_at 49 rfl) rfl rfl rfl rfl rfl ⟨⟨SH.o hS1 ⟨by decide, by decide, by decide⟩, by decide⟩, ?_⟩
  have hS5 := SH_u2 (b := 102) (x := 8) (z := (u2 B 102 7 ((B 102 7) + 1)) (((B 102 3).toNat) + 5) (B 102 6)) hS1 (by decide)
  refine y_ldk (ok := q_isA) (n := 0) (ck_at dt_Wa_take 13 rfl) rfl rfl (fun _ => rfl) rfl rfl ?_
  refine y_virtP (k' := n_Wa_pass) (n := 0) (as := []) (r := []) (ck_at dt_Wa_take 14 rfl) own_Wa_take (cm_at 105 rfl) vk_Wa_pass rfl nl_Wa_pass rfl rfl rfl rfl (SH.o hS5 ⟨by decide, by decide, by decide⟩) (Y_Wa_pass (by omega) hS5 p6 p7 p8 ⟨rfl, rfl⟩) ?_
  have hS9 := SH_u2 (b := 102) (x := 6) (z := (u2 (u2 B 102 7 ((B 102 7) + 1)) 102 8 ((u2 B 102 7 ((B 102 7) + 1)) (((B 102 3).toNat) + 5) (B 102 6))) (((u2 (u2 B 102 7 ((B 102 7) + 1)) 102 8 ((u2 B 102 7 ((B 102 7) + 1)) (((B 102 3).toNat) + 5) (B 102 6))) 102 3).toNat + 3) ((u2 (u2 B 102 7 ((B 102 7) + 1)) 102 8 ((u2 B 102 7 ((B 102 7) + 1)) (((B 102 3).toNat) + 5) (B 102 6))) 102 6)) hS5 (by decide)
  exact y_retZ (ck_at dt_Wa_take 15 rfl) rt_Wa_take (by decide) w
/-! PatternTrier$Walker.endRound(I)Z -/
def t_Wa_endRound : List (Nat × Instr × Nat) := [(0, .aload_n 0, 1), (1, .getfield 99, 3), (4, .iload_n 1, 1), (5, .if_icmp .ge 5, 3), (8, .iconst 0, 1), (9, .ireturn, 1), (10, .aload_n 0, 1), (11, .iload_n 1, 1), (12, .iconst 1, 1), (13, .isub, 1), (14, .putfield 99, 3), (17, .aload_n 0, 1), (18, .invokevirtual 136, 3), (21, .ireturn, 1)]
set_option maxRecDepth 100000 in
theorem dt_Wa_endRound : q_ck n_Wa_endRound t_Wa_endRound = true := by decide +kernel
def c_Wa_endRound_0 (h1 : qH) (d : Nat) (x1 : Int) (B : qB) (Q : qO → qB → Prop) : Prop := R32 (B 102 8) ∧ R32 x1 ∧ (B 102 8 ≥ x1 → ob 5 ((u2 B 102 8 (x1 - 1)) 102 3).toNat ∧ 0 ≤ (u2 B 102 8 (x1 - 1)) 102 6 ∧ (u2 B 102 8 (x1 - 1)) 102 6 < 608 ∧ Q (.inl (some (iv 1))) (u2 (u2 B 102 8 (x1 - 1)) 102 6 ((u2 B 102 8 (x1 - 1)) (((u2 B 102 8 (x1 - 1)) 102 3).toNat + 3) ((u2 B 102 8 (x1 - 1)) 102 6)))) ∧ (B 102 8 < x1 → Q (.inl (some (iv 0))) B)
theorem c_Wa_endRound_0_ok {h1 : qH} {d : Nat} {x1 : Int} {B : qB} {Q : qO → qB → Prop} (hd : 2 ≤ d) (hS : SH B) (w : c_Wa_endRound_0 h1 d x1 B Q) : qY h1 (d + 1) n_Wa_endRound 0 [some (.ref 102), some (iv x1)] [] B Q := by
  unfold c_Wa_endRound_0 at w
  obtain ⟨p1, p2, w⟩ := w
  refine y_ldk (ok := q_isA) (n := 0) (ck_at dt_Wa_endRound 0 rfl) rfl rfl (fun _ => rfl) rfl rfl ?_
  refine y_getI (K := 9) (j := 8) (a := 102) (ck_at dt_Wa_endRound 1 rfl) own_Wa_endRound (cf_at 49 rfl) rfl rfl rfl ⟨(SH.o hS ⟨by decide, by decide, by decide⟩), ?_⟩
  refine y_ldk (ok := q_isI) (n := 1) (ck_at dt_Wa_endRound 2 rfl) rfl rfl (fun _ => rfl) rfl rfl ?_
  refine y_icmp (t := 10) (ck_at dt_Wa_endRound 3 rfl) rfl p1 p2 ?_ ?_
  · intro q; have w := w.1 q
    obtain ⟨p4, p5, p6, w⟩ := w
    refine y_ldk (ok := q_isA) (n := 0) (ck_at dt_Wa_endRound 6 rfl) rfl rfl (fun _ => rfl) rfl rfl ?_
    refine y_ldk (ok := q_isI) (n := 1) (ck_at dt_Wa_endRound 7 rfl) rfl rfl (fun _ => rfl) rfl rfl ?_
    refine y_op (ck_at dt_Wa_endRound 8 rfl) rfl (o_const _) ?_
    refine y_op (ck_at dt_Wa_endRound 9 rfl) rfl o_isub ?_
    refine y_putI (K := 9) (j := 8) (a := 102) (ck_at dt_Wa_endRound 10 rfl) own_Wa_endRound (cf_at 49 rfl) rfl rfl rfl rfl rfl ⟨⟨SH.o hS ⟨by decide, by decide, by decide⟩, by decide⟩, ?_⟩
    have hS3 := SH_u2 (b := 102) (x := 8) (z := x1 - 1) hS (by decide)
    refine y_ldk (ok := q_isA) (n := 0) (ck_at dt_Wa_endRound 11 rfl) rfl rfl (fun _ => rfl) rfl rfl ?_
    refine y_virtP (k' := n_Wa_pass) (n := 0) (as := []) (r := []) (ck_at dt_Wa_endRound 12 rfl) own_Wa_endRound (cm_at 105 rfl) vk_Wa_pass rfl nl_Wa_pass rfl rfl rfl rfl (SH.o hS3 ⟨by decide, by decide, by decide⟩) (Y_Wa_pass (by omega) hS3 p4 p5 p6 ⟨rfl, rfl⟩) ?_
    have hS7 := SH_u2 (b := 102) (x := 6) (z := (u2 B 102 8 (x1 - 1)) (((u2 B 102 8 (x1 - 1)) 102 3).toNat + 3) ((u2 B 102 8 (x1 - 1)) 102 6)) hS3 (by decide)
    exact y_retZ (ck_at dt_Wa_endRound 13 rfl) rt_Wa_endRound (by decide) w
  · intro q; have w := w.2 q
    refine y_op (ck_at dt_Wa_endRound 4 rfl) rfl (o_const _) ?_
    exact y_retZ (ck_at dt_Wa_endRound 5 rfl) rt_Wa_endRound (by decide) w
/-! PatternTrier$Walker.copyMarks([I)V -/
def t_Wa_copyMarks : List (Nat × Instr × Nat) := [(0, .aload_n 0, 1), (1, .getfield 25, 3), (4, .iconst 0, 1), (5, .aload_n 1, 1), (6, .iconst 0, 1), (7, .aload_n 0, 1), (8, .getfield 25, 3), (11, .arraylength, 1), (12, .aload_n 1, 1), (13, .arraylength, 1), (14, .invokestatic 75, 3), (17, .invokestatic 81, 3), (20, .return_, 1)]
set_option maxRecDepth 100000 in
theorem dt_Wa_copyMarks : q_ck n_Wa_copyMarks t_Wa_copyMarks = true := by decide +kernel
def c_Wa_copyMarks_0 (h1 : qH) (d : Nat) (a1 : Nat) (n1 : Int) (B : qB) (Q : qO → qB → Prop) : Prop := R32 n1 ∧ 0 ≤ min 20 n1 ∧ 0 + (min 20 n1) ≤ 20 ∧ 0 + (min 20 n1) ≤ n1 ∧ Q (.inl none) (cpC B 107 0 a1 0 (min 20 n1))
theorem c_Wa_copyMarks_0_ok {h1 : qH} {d : Nat} {a1 : Nat} {n1 : Int} {B : qB} {Q : qO → qB → Prop} (hd : 0 ≤ d) (hS : SH B) (hA1 : isA B 1 a1 n1) (hA1n : n1 ≤ 67108864) (hA1l : a1 < 1000000000) (w : c_Wa_copyMarks_0 h1 d a1 n1 B Q) : qY h1 (d + 1) n_Wa_copyMarks 0 [some (.ref 102), some (.ref a1)] [] B Q := by
  unfold c_Wa_copyMarks_0 at w
  obtain ⟨p1, p2, p3, p4, w⟩ := w
  refine y_ldk (ok := q_isA) (n := 0) (ck_at dt_Wa_copyMarks 0 rfl) rfl rfl (fun _ => rfl) rfl rfl ?_
  refine y_getF (r := 107) (K := 9) (j := 2) (a := 102) (ck_at dt_Wa_copyMarks 1 rfl) own_Wa_copyMarks (cf_at 43 rfl) rfl rfl ⟨(SH.o hS ⟨by decide, by decide, by decide⟩), ?_⟩
  refine y_op (ck_at dt_Wa_copyMarks 2 rfl) rfl (o_const _) ?_
  refine y_ldk (ok := q_isA) (n := 1) (ck_at dt_Wa_copyMarks 3 rfl) rfl rfl (fun _ => rfl) rfl rfl ?_
  refine y_op (ck_at dt_Wa_copyMarks 4 rfl) rfl (o_const _) ?_
  refine y_ldk (ok := q_isA) (n := 0) (ck_at dt_Wa_copyMarks 5 rfl) rfl rfl (fun _ => rfl) rfl rfl ?_
  refine y_getF (r := 107) (K := 9) (j := 2) (a := 102) (ck_at dt_Wa_copyMarks 6 rfl) own_Wa_copyMarks (cf_at 43 rfl) rfl rfl ⟨(SH.o hS ⟨by decide, by decide, by decide⟩), ?_⟩
  refine y_alen (ck_at dt_Wa_copyMarks 7 rfl) ⟨1, 20, (SH.a (t := 1) (a := 107) (n := 20) hS ⟨by decide, by decide, by decide, by decide⟩), (by decide), ?_⟩
  refine y_ldk (ok := q_isA) (n := 1) (ck_at dt_Wa_copyMarks 8 rfl) rfl rfl (fun _ => rfl) rfl rfl ?_
  refine y_alen (ck_at dt_Wa_copyMarks 9 rfl) ⟨1, n1, hA1, hA1n, ?_⟩
  refine y_mm (b := false) (ck_at dt_Wa_copyMarks 10 rfl) own_Wa_copyMarks (by decide +kernel) rfl ⟨by decide, by decide⟩ p1 ?_
  rw [if_neg (by decide)]
  refine y_copy (ck_at dt_Wa_copyMarks 11 rfl) own_Wa_copyMarks (by decide +kernel) rfl ⟨1, 20, n1, by decide, (SH.a (t := 1) (a := 107) (n := 20) hS ⟨by decide, by decide, by decide, by decide⟩), hA1, (by decide), hA1n, (by decide), hA1l, (by decide), (by decide), p2, p3, p4, (fun q => absurd q (by decide)), ?_⟩
  have hS5 := SH_cp (a0 := 107) (sp := 0) (a1 := a1) (dp := 0) (n := min 20 n1) hS (by decide)
  exact y_ret0 (ck_at dt_Wa_copyMarks 12 rfl) rt_Wa_copyMarks w
