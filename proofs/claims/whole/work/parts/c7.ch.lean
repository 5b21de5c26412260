/-! PatternTrier$Failures.has(II)Z -/
def t_Fl_has : List (Nat × Instr × Nat) := [(0, .aload_n 0, 1), (1, .iload_n 1, 1), (2, .invokevirtual 29, 3), (5, .iload_n 2, 1), (6, .if_icmp .le 7, 3), (9, .iconst 1, 1), (10, .goto 4, 3), (13, .iconst 0, 1), (14, .ireturn, 1)]
set_option maxRecDepth 100000 in
theorem dt_Fl_has : q_ck n_Fl_has t_Fl_has = true := by decide +kernel
def c_Fl_has_5 (h1 : qH) (d : Nat) (x2 : Int) (s0 : Int) (B : qB) (Q : qO → qB → Prop) : Prop := R32 s0 ∧ R32 x2 ∧ (s0 ≤ x2 → Q (.inl (some (iv 0))) B) ∧ (s0 > x2 → Q (.inl (some (iv 1))) B)
theorem c_Fl_has_5_ok {h1 : qH} {d : Nat} {x2 : Int} {s0 : Int} {B : qB} {Q : qO → qB → Prop} (hd : 0 ≤ d) (hS : SH B) (w : c_Fl_has_5 h1 d x2 s0 B Q) : qY h1 (d + 1) n_Fl_has 5 [none, none, some (iv x2)] [iv s0] B Q := by
  unfold c_Fl_has_5 at w
  obtain ⟨p1, p2, w⟩ := w
  refine y_ldk (ok := q_isI) (n := 2) (ck_at dt_Fl_has 3 rfl) rfl rfl (fun _ => rfl) rfl rfl ?_
  refine y_icmp (t := 13) (ck_at dt_Fl_has 4 rfl) rfl p1 p2 ?_ ?_
  · intro q; have w := w.1 q
    refine y_op (ck_at dt_Fl_has 7 rfl) rfl (o_const _) ?_
    exact y_retZ (ck_at dt_Fl_has 8 rfl) rt_Fl_has (by decide) w
  · intro q; have w := w.2 q
    refine y_op (ck_at dt_Fl_has 5 rfl) rfl (o_const _) ?_
    refine y_goto (t := 14) (ck_at dt_Fl_has 6 rfl) rfl ?_
    exact y_retZ (ck_at dt_Fl_has 8 rfl) rt_Fl_has (by decide) w
def c_Fl_has_0 (h1 : qH) (d : Nat) (x1 : Int) (x2 : Int) (B : qB) (Q : qO → qB → Prop) : Prop := qY h1 d n_Fl_at 0 [some (.ref 105), some (iv x1)] [] B (fun o B' => ∃ v : Int, o = .inl (some (iv v)) ∧ SH B' ∧ c_Fl_has_5 h1 d x2 v B' Q)
theorem c_Fl_has_0_ok {h1 : qH} {d : Nat} {x1 : Int} {x2 : Int} {B : qB} {Q : qO → qB → Prop} (hd : 0 ≤ d) (hS : SH B) (w : c_Fl_has_0 h1 d x1 x2 B Q) : qY h1 (d + 1) n_Fl_has 0 [some (.ref 105), some (iv x1), some (iv x2)] [] B Q := by
  unfold c_Fl_has_0 at w
  refine y_ldk (ok := q_isA) (n := 0) (ck_at dt_Fl_has 0 rfl) rfl rfl (fun _ => rfl) rfl rfl ?_
  refine y_ldk (ok := q_isI) (n := 1) (ck_at dt_Fl_has 1 rfl) rfl rfl (fun _ => rfl) rfl rfl ?_
  refine y_virt (k' := n_Fl_at) (n := 0) (as := [iv x1]) (r := []) (ck_at dt_Fl_has 2 rfl) own_Fl_has (cm_at 22 rfl) vk_Fl_at rfl nl_Fl_at rfl rfl rfl rfl ⟨(SH.o hS ⟨by decide, by decide, by decide⟩), ?_⟩
  exact w.mono (Nat.le_refl _) (fun o B' ⟨v, ho, hS', w⟩ => Or.inl ⟨some (iv v), ho, y_wk (c_Fl_has_5_ok (by omega) hS' w) ⟨rfl, trivial⟩⟩)
/-! PatternTrier$Failures.add(II)V -/
def t_Fl_add : List (Nat × Instr × Nat) := [(0, .aload_n 0, 1), (1, .iload_n 1, 1), (2, .invokevirtual 29, 3), (5, .iload_n 2, 1), (6, .if_icmp .gt 50, 3), (9, .iconst 4, 1), (10, .iload_n 1, 1), (11, .bipush 7, 2), (13, .iand, 1), (14, .imul, 1), (15, .istore_n 3, 1), (16, .aload_n 0, 1), (17, .getfield 9, 3), (20, .iload_n 1, 1), (21, .iconst 3, 1), (22, .iushr, 1), (23, .invokestatic 33, 3), (26, .bipush 15, 2), (28, .iload_n 3, 1), (29, .ishl, 1), (30, .iconst (-1), 1), (31, .ixor, 1), (32, .iand, 1), (33, .istore 4, 2), (35, .aload_n 0, 1), (36, .getfield 9, 3), (39, .iload_n 1, 1), (40, .iconst 3, 1), (41, .iushr, 1), (42, .iload 4, 2), (44, .iload_n 2, 1), (45, .iconst 1, 1), (46, .iadd, 1), (47, .bipush 15, 2), (49, .iand, 1), (50, .iload_n 3, 1), (51, .ishl, 1), (52, .ior, 1), (53, .invokestatic 39, 3), (56, .return_, 1)]
set_option maxRecDepth 100000 in
theorem dt_Fl_add : q_ck n_Fl_add t_Fl_add = true := by decide +kernel
def c_Fl_add_5 (h1 : qH) (d : Nat) (x1 : Int) (x2 : Int) (s0 : Int) (B : qB) (Q : qO → qB → Prop) : Prop := R32 s0 ∧ R32 x2 ∧ (s0 > x2 → Q (.inl none) B) ∧ (s0 ≤ x2 → isA B 1 ((B 105 0).toNat) (el B ((B 105 0).toNat)) ∧ el B ((B 105 0).toNat) ≤ 67108864 ∧ (B 105 0).toNat < 1000000000 ∧ 0 ≤ (iUshr x1 3) ∧ (iUshr x1 3) < el B ((B 105 0).toNat) ∧ Q (.inl none) (u2 B ((B 105 0).toNat) (iUshr x1 3) (iOr (iAnd (B ((B 105 0).toNat) (iUshr x1 3)) (iXor (iShl 15 (4 * (iAnd x1 7))) (-1))) (iShl (iAnd (x2 + 1) 15) (4 * (iAnd x1 7))))))
theorem c_Fl_add_5_ok {h1 : qH} {d : Nat} {x1 : Int} {x2 : Int} {s0 : Int} {B : qB} {Q : qO → qB → Prop} (hd : 1 ≤ d) (hS : SH B) (w : c_Fl_add_5 h1 d x1 x2 s0 B Q) : qY h1 (d + 1) n_Fl_add 5 [some (.ref 105), some (iv x1), some (iv x2), none, none] [iv s0] B Q := by
  unfold c_Fl_add_5 at w
  obtain ⟨p1, p2, w⟩ := w
  refine y_ldk (ok := q_isI) (n := 2) (ck_at dt_Fl_add 3 rfl) rfl rfl (fun _ => rfl) rfl rfl ?_
  refine y_icmp (t := 56) (ck_at dt_Fl_add 4 rfl) rfl p1 p2 ?_ ?_
  · intro q; have w := w.1 q
    exact y_ret0 (ck_at dt_Fl_add 39 rfl) rt_Fl_add w
  · intro q; have w := w.2 q
    obtain ⟨p3, p4, p5, p6, p7, w⟩ := w
    refine y_op (ck_at dt_Fl_add 5 rfl) rfl (o_const _) ?_
    refine y_ldk (ok := q_isI) (n := 1) (ck_at dt_Fl_add 6 rfl) rfl rfl (fun _ => rfl) rfl rfl ?_
    refine y_op (ck_at dt_Fl_add 7 rfl) rfl (o_bipush _ (by decide)) ?_
    refine y_op (ck_at dt_Fl_add 8 rfl) rfl o_iand ?_
    refine y_op (ck_at dt_Fl_add 9 rfl) rfl o_imul ?_
    refine y_st1 (ok := q_isI) (n := 3) (L' := [some (.ref 105), some (iv x1), some (iv x2), some (iv (4 * (iAnd x1 7))), none]) (ck_at dt_Fl_add 10 rfl) rfl (fun _ => rfl) (fun _ _ => rfl) rfl nl_Fl_add (by decide) rfl rfl ?_
    refine y_ldk (ok := q_isA) (n := 0) (ck_at dt_Fl_add 11 rfl) rfl rfl (fun _ => rfl) rfl rfl ?_
    refine y_getD (K := 2) (j := 0) (a := 105) (ck_at dt_Fl_add 12 rfl) own_Fl_add (cf_at 4 rfl) rfl rfl rfl ⟨(SH.o hS ⟨by decide, by decide, by decide⟩), ?_⟩
    refine y_ldk (ok := q_isI) (n := 1) (ck_at dt_Fl_add 13 rfl) rfl rfl (fun _ => rfl) rfl rfl ?_
    refine y_op (ck_at dt_Fl_add 14 rfl) rfl (o_const _) ?_
    refine y_op (ck_at dt_Fl_add 15 rfl) rfl o_iushr ?_
    refine y_stat3P (k' := n_P_cell) (n := 0) (as := [.ref ((B 105 0).toNat), iv (iUshr x1 3)]) (r := []) (ck_at dt_Fl_add 16 rfl) own_Fl_add (cm_at 23 rfl) (cs_at 1 rfl) vk_P_cell rfl nl_P_cell rfl rfl rfl rfl  (Y_P_cell (by omega) hS p3 p4 p6 p7 ⟨rfl, rfl⟩) ?_
    refine y_op (ck_at dt_Fl_add 17 rfl) rfl (o_bipush _ (by decide)) ?_
    refine y_ldk (ok := q_isI) (n := 3) (ck_at dt_Fl_add 18 rfl) rfl rfl (fun _ => rfl) rfl rfl ?_
    refine y_op (ck_at dt_Fl_add 19 rfl) rfl o_ishl ?_
    refine y_op (ck_at dt_Fl_add 20 rfl) rfl (o_const _) ?_
    refine y_op (ck_at dt_Fl_add 21 rfl) rfl o_ixor ?_
    refine y_op (ck_at dt_Fl_add 22 rfl) rfl o_iand ?_
    refine y_st1 (ok := q_isI) (n := 4) (L' := [some (.ref 105), some (iv x1), some (iv x2), some (iv (4 * (iAnd x1 7))), some (iv (iAnd (B ((B 105 0).toNat) (iUshr x1 3)) (iXor (iShl 15 (4 * (iAnd x1 7))) (-1))))]) (ck_at dt_Fl_add 23 rfl) rfl (fun _ => rfl) (fun _ _ => rfl) rfl nl_Fl_add (by decide) rfl rfl ?_
    refine y_ldk (ok := q_isA) (n := 0) (ck_at dt_Fl_add 24 rfl) rfl rfl (fun _ => rfl) rfl rfl ?_
    refine y_getD (K := 2) (j := 0) (a := 105) (ck_at dt_Fl_add 25 rfl) own_Fl_add (cf_at 4 rfl) rfl rfl rfl ⟨(SH.o hS ⟨by decide, by decide, by decide⟩), ?_⟩
    refine y_ldk (ok := q_isI) (n := 1) (ck_at dt_Fl_add 26 rfl) rfl rfl (fun _ => rfl) rfl rfl ?_
    refine y_op (ck_at dt_Fl_add 27 rfl) rfl (o_const _) ?_
    refine y_op (ck_at dt_Fl_add 28 rfl) rfl o_iushr ?_
    refine y_ldk (ok := q_isI) (n := 4) (ck_at dt_Fl_add 29 rfl) rfl rfl (fun _ => rfl) rfl rfl ?_
    refine y_ldk (ok := q_isI) (n := 2) (ck_at dt_Fl_add 30 rfl) rfl rfl (fun _ => rfl) rfl rfl ?_
    refine y_op (ck_at dt_Fl_add 31 rfl) rfl (o_const _) ?_
    refine y_op (ck_at dt_Fl_add 32 rfl) rfl o_iadd ?_
    refine y_op (ck_at dt_Fl_add 33 rfl) rfl (o_bipush _ (by decide)) ?_
    refine y_op (ck_at dt_Fl_add 34 rfl) rfl o_iand ?_
    refine y_ldk (ok := q_isI) (n := 3) (ck_at dt_Fl_add 35 rfl) rfl rfl (fun _ => rfl) rfl rfl ?_
    refine y_op (ck_at dt_Fl_add 36 rfl) rfl o_ishl ?_
    refine y_op (ck_at dt_Fl_add 37 rfl) rfl o_ior ?_
    refine y_stat3V (k' := n_P_put) (n := 0) (as := [.ref ((B 105 0).toNat), iv (iUshr x1 3), iv (iOr (iAnd (B ((B 105 0).toNat) (iUshr x1 3)) (iXor (iShl 15 (4 * (iAnd x1 7))) (-1))) (iShl (iAnd (x2 + 1) 15) (4 * (iAnd x1 7))))]) (r := []) (ck_at dt_Fl_add 38 rfl) own_Fl_add (cm_at 24 rfl) (cs_at 2 rfl) vk_P_put rfl nl_P_put rfl rfl rfl rfl  (Y_P_put (by omega) hS p3 p4 p5 p6 p7 ⟨rfl, rfl⟩) ?_
    have hS8 := SH_u2 (b := ((B 105 0).toNat)) (x := (iUshr x1 3)) (z := (iOr (iAnd (B ((B 105 0).toNat) (iUshr x1 3)) (iXor (iShl 15 (4 * (iAnd x1 7))) (-1))) (iShl (iAnd (x2 + 1) 15) (4 * (iAnd x1 7))))) hS p6
    exact y_ret0 (ck_at dt_Fl_add 39 rfl) rt_Fl_add w
def c_Fl_add_0 (h1 : qH) (d : Nat) (x1 : Int) (x2 : Int) (B : qB) (Q : qO → qB → Prop) : Prop := qY h1 d n_Fl_at 0 [some (.ref 105), some (iv x1)] [] B (fun o B' => ∃ v : Int, o = .inl (some (iv v)) ∧ SH B' ∧ c_Fl_add_5 h1 d x1 x2 v B' Q)
theorem c_Fl_add_0_ok {h1 : qH} {d : Nat} {x1 : Int} {x2 : Int} {B : qB} {Q : qO → qB → Prop} (hd : 1 ≤ d) (hS : SH B) (w : c_Fl_add_0 h1 d x1 x2 B Q) : qY h1 (d + 1) n_Fl_add 0 [some (.ref 105), some (iv x1), some (iv x2), none, none] [] B Q := by
  unfold c_Fl_add_0 at w
  refine y_ldk (ok := q_isA) (n := 0) (ck_at dt_Fl_add 0 rfl) rfl rfl (fun _ => rfl) rfl rfl ?_
  refine y_ldk (ok := q_isI) (n := 1) (ck_at dt_Fl_add 1 rfl) rfl rfl (fun _ => rfl) rfl rfl ?_
  refine y_virt (k' := n_Fl_at) (n := 0) (as := [iv x1]) (r := []) (ck_at dt_Fl_add 2 rfl) own_Fl_add (cm_at 22 rfl) vk_Fl_at rfl nl_Fl_at rfl rfl rfl rfl ⟨(SH.o hS ⟨by decide, by decide, by decide⟩), ?_⟩
  exact w.mono (Nat.le_refl _) (fun o B' ⟨v, ho, hS', w⟩ => Or.inl ⟨some (iv v), ho, y_wk (c_Fl_add_5_ok (by omega) hS' w) ⟨rfl, ⟨rfl, ⟨rfl, trivial⟩⟩⟩⟩)
/-! PatternTrier$Walker.chooseFirst()Z -/
def t_Wa_chooseFirst : List (Nat × Instr × Nat) := [(0, .aload_n 0, 1), (1, .getfield 21, 3), (4, .aload_n 0, 1), (5, .aload_n 0, 1), (6, .getfield 92, 3), (9, .aload_n 0, 1), (10, .getfield 96, 3), (13, .invokevirtual 151, 3), (16, .aload_n 0, 1), (17, .getfield 99, 3), (20, .invokevirtual 154, 3), (23, .ifCond .eq 5, 3), (26, .iconst 0, 1), (27, .ireturn, 1), (28, .aload_n 0, 1), (29, .getfield 12, 3), (32, .iconst 0, 1), (33, .aload_n 0, 1), (34, .getfield 92, 3), (37, .aload_n 0, 1), (38, .getfield 99, 3), (41, .aload_n 0, 1), (42, .getfield 96, 3), (45, .invokestatic 157, 3), (48, .invokevirtual 161, 3), (51, .aload_n 0, 1), (52, .invokevirtual 136, 3), (55, .ireturn, 1)]
set_option maxRecDepth 100000 in
theorem dt_Wa_chooseFirst : q_ck n_Wa_chooseFirst t_Wa_chooseFirst = true := by decide +kernel
def c_Wa_chooseFirst_51 (h1 : qH) (d : Nat) (B : qB) (Q : qO → qB → Prop) : Prop := ob 5 (B 102 3).toNat ∧ 0 ≤ B 102 6 ∧ B 102 6 < 608 ∧ Q (.inl (some (iv 1))) (u2 B 102 6 (B ((B 102 3).toNat + 3) (B 102 6)))
theorem c_Wa_chooseFirst_51_ok {h1 : qH} {d : Nat} {B : qB} {Q : qO → qB → Prop} (hd : 2 ≤ d) (hS : SH B) (w : c_Wa_chooseFirst_51 h1 d B Q) : qY h1 (d + 1) n_Wa_chooseFirst 51 [some (.ref 102)] [] B Q := by
  unfold c_Wa_chooseFirst_51 at w
  obtain ⟨p1, p2, p3, w⟩ := w
  refine y_ldk (ok := q_isA) (n := 0) (ck_at dt_Wa_chooseFirst 25 rfl) rfl rfl (fun _ => rfl) rfl rfl ?_
  refine y_virtP (k' := n_Wa_pass) (n := 0) (as := []) (r := []) (ck_at dt_Wa_chooseFirst 26 rfl) own_Wa_chooseFirst (cm_at 105 rfl) vk_Wa_pass rfl nl_Wa_pass rfl rfl rfl rfl (SH.o hS ⟨by decide, by decide, by decide⟩) (Y_Wa_pass (by omega) hS p1 p2 p3 ⟨rfl, rfl⟩) ?_
  have hS4 := SH_u2 (b := 102) (x := 6) (z := B ((B 102 3).toNat + 3) (B 102 6)) hS (by decide)
  exact y_retZ (ck_at dt_Wa_chooseFirst 27 rfl) rt_Wa_chooseFirst (by decide) w
def c_Wa_chooseFirst_23 (h1 : qH) (d : Nat) (s0 : Int) (B : qB) (Q : qO → qB → Prop) : Prop := R32 s0 ∧ (s0 = 0 → pkO 0 (B 102 6) (B 102 8) (B 102 7) ∧ qY h1 d n_Pi_push 0 [some (.ref 103), some (iv (pkV 0 (B 102 6) (B 102 8) (B 102 7)))] [] B (fun o B' => o = .inl none ∧ SH B' ∧ c_Wa_chooseFirst_51 h1 d B' Q)) ∧ (¬ s0 = 0 → Q (.inl (some (iv 0))) B)
theorem c_Wa_chooseFirst_23_ok {h1 : qH} {d : Nat} {s0 : Int} {B : qB} {Q : qO → qB → Prop} (hd : 2 ≤ d) (hS : SH B) (w : c_Wa_chooseFirst_23 h1 d s0 B Q) : qY h1 (d + 1) n_Wa_chooseFirst 23 [some (.ref 102)] [iv s0] B Q := by
  unfold c_Wa_chooseFirst_23 at w
  obtain ⟨p1, w⟩ := w
  refine y_ifz (t := 28) (ck_at dt_Wa_chooseFirst 11 rfl) rfl p1 ?_ ?_
  · intro q; have w := w.1 q
    obtain ⟨p2, w⟩ := w
    refine y_ldk (ok := q_isA) (n := 0) (ck_at dt_Wa_chooseFirst 14 rfl) rfl rfl (fun _ => rfl) rfl rfl ?_
    refine y_getF (r := 103) (K := 9) (j := 0) (a := 102) (ck_at dt_Wa_chooseFirst 15 rfl) own_Wa_chooseFirst (cf_at 41 rfl) rfl rfl ⟨(SH.o hS ⟨by decide, by decide, by decide⟩), ?_⟩
    refine y_op (ck_at dt_Wa_chooseFirst 16 rfl) rfl (o_const _) ?_
    refine y_ldk (ok := q_isA) (n := 0) (ck_at dt_Wa_chooseFirst 17 rfl) rfl rfl (fun _ => rfl) rfl rfl ?_
    refine y_getI (K := 9) (j := 6) (a := 102) (ck_at dt_Wa_chooseFirst 18 rfl) own_Wa_chooseFirst (cf_at 47 rfl) rfl rfl rfl ⟨(SH.o hS ⟨by decide, by decide, by decide⟩), ?_⟩
    refine y_ldk (ok := q_isA) (n := 0) (ck_at dt_Wa_chooseFirst 19 rfl) rfl rfl (fun _ => rfl) rfl rfl ?_
    refine y_getI (K := 9) (j := 8) (a := 102) (ck_at dt_Wa_chooseFirst 20 rfl) own_Wa_chooseFirst (cf_at 49 rfl) rfl rfl rfl ⟨(SH.o hS ⟨by decide, by decide, by decide⟩), ?_⟩
    refine y_ldk (ok := q_isA) (n := 0) (ck_at dt_Wa_chooseFirst 21 rfl) rfl rfl (fun _ => rfl) rfl rfl ?_
    refine y_getI (K := 9) (j := 7) (a := 102) (ck_at dt_Wa_chooseFirst 22 rfl) own_Wa_chooseFirst (cf_at 48 rfl) rfl rfl rfl ⟨(SH.o hS ⟨by decide, by decide, by decide⟩), ?_⟩
    refine y_statP (k' := n_Pi_pack) (n := 0) (as := [iv 0, iv (B 102 6), iv (B 102 8), iv (B 102 7)]) (r := [.ref 103]) (ck_at dt_Wa_chooseFirst 23 rfl) own_Wa_chooseFirst (cm_at 112 rfl) (cs_at 22 rfl) vk_Pi_pack rfl nl_Pi_pack rfl rfl rfl rfl  (Y_Pi_pack (by omega) hS p2 ⟨rfl, rfl⟩) ?_
    refine y_virt (k' := n_Pi_push) (n := 0) (as := [iv (pkV 0 (B 102 6) (B 102 8) (B 102 7))]) (r := []) (ck_at dt_Wa_chooseFirst 24 rfl) own_Wa_chooseFirst (cm_at 113 rfl) vk_Pi_push rfl nl_Pi_push rfl rfl rfl rfl ⟨(SH.o hS ⟨by decide, by decide, by decide⟩), ?_⟩
    exact w.mono (Nat.le_refl _) (fun o B' ⟨ho, hS', w⟩ => Or.inl ⟨none, ho, y_wk (c_Wa_chooseFirst_51_ok (by omega) hS' w) ⟨rfl, trivial⟩⟩)
  · intro q; have w := w.2 q
    refine y_op (ck_at dt_Wa_chooseFirst 12 rfl) rfl (o_const _) ?_
    exact y_retZ (ck_at dt_Wa_chooseFirst 13 rfl) rt_Wa_chooseFirst (by decide) w
def c_Wa_chooseFirst_0 (h1 : qH) (d : Nat) (B : qB) (Q : qO → qB → Prop) : Prop := ob 5 (B 102 3).toNat ∧ ob 1 (B 102 4).toNat ∧ 0 ≤ (B 102 6) ∧ (B 102 6) < 608 ∧ qY h1 d n_Fl_has 0 [some (.ref 105), some (iv (keV B (B 102 6) (B 102 7))), some (iv (B 102 8))] [] B (fun o B' => ∃ v : Int, o = .inl (some (iv v)) ∧ SH B' ∧ c_Wa_chooseFirst_23 h1 d v B' Q)
theorem c_Wa_chooseFirst_0_ok {h1 : qH} {d : Nat} {B : qB} {Q : qO → qB → Prop} (hd : 2 ≤ d) (hS : SH B) (w : c_Wa_chooseFirst_0 h1 d B Q) : qY h1 (d + 1) n_Wa_chooseFirst 0 [some (.ref 102)] [] B Q := by
  unfold c_Wa_chooseFirst_0 at w
  obtain ⟨p1, p2, p3, p4, w⟩ := w
  refine y_ldk (ok := q_isA) (n := 0) (ck_at dt_Wa_chooseFirst 0 rfl) rfl rfl (fun _ => rfl) rfl rfl ?_
  refine y_getF (r := 105) (K := 9) (j := 1) (a := 102) (ck_at dt_Wa_chooseFirst 1 rfl) own_Wa_chooseFirst (cf_at 42 rfl) rfl rfl ⟨(SH.o hS ⟨by decide, by decide, by decide⟩), ?_⟩
  refine y_ldk (ok := q_isA) (n := 0) (ck_at dt_Wa_chooseFirst 2 rfl) rfl rfl (fun _ => rfl) rfl rfl ?_
  refine y_ldk (ok := q_isA) (n := 0) (ck_at dt_Wa_chooseFirst 3 rfl) rfl rfl (fun _ => rfl) rfl rfl ?_
  refine y_getI (K := 9) (j := 6) (a := 102) (ck_at dt_Wa_chooseFirst 4 rfl) own_Wa_chooseFirst (cf_at 47 rfl) rfl rfl rfl ⟨(SH.o hS ⟨by decide, by decide, by decide⟩), ?_⟩
  refine y_ldk (ok := q_isA) (n := 0) (ck_at dt_Wa_chooseFirst 5 rfl) rfl rfl (fun _ => rfl) rfl rfl ?_
  refine y_getI (K := 9) (j := 7) (a := 102) (ck_at dt_Wa_chooseFirst 6 rfl) own_Wa_chooseFirst (cf_at 48 rfl) rfl rfl rfl ⟨(SH.o hS ⟨by decide, by decide, by decide⟩), ?_⟩
  refine y_virtP (k' := n_Wa_key) (n := 0) (as := [iv (B 102 6), iv (B 102 7)]) (r := [.ref 105]) (ck_at dt_Wa_chooseFirst 7 rfl) own_Wa_chooseFirst (cm_at 110 rfl) vk_Wa_key rfl nl_Wa_key rfl rfl rfl rfl (SH.o hS ⟨by decide, by decide, by decide⟩) (Y_Wa_key (by omega) hS p1 p2 p3 p4 ⟨rfl, rfl⟩) ?_
  refine y_ldk (ok := q_isA) (n := 0) (ck_at dt_Wa_chooseFirst 8 rfl) rfl rfl (fun _ => rfl) rfl rfl ?_
  refine y_getI (K := 9) (j := 8) (a := 102) (ck_at dt_Wa_chooseFirst 9 rfl) own_Wa_chooseFirst (cf_at 49 rfl) rfl rfl rfl ⟨(SH.o hS ⟨by decide, by decide, by decide⟩), ?_⟩
  refine y_virt (k' := n_Fl_has) (n := 0) (as := [iv (keV B (B 102 6) (B 102 7)), iv (B 102 8)]) (r := []) (ck_at dt_Wa_chooseFirst 10 rfl) own_Wa_chooseFirst (cm_at 111 rfl) vk_Fl_has rfl nl_Fl_has rfl rfl rfl rfl ⟨(SH.o hS ⟨by decide, by decide, by decide⟩), ?_⟩
  exact w.mono (Nat.le_refl _) (fun o B' ⟨v, ho, hS', w⟩ => Or.inl ⟨some (iv v), ho, y_wk (c_Wa_chooseFirst_23_ok (by omega) hS' w) ⟨rfl, trivial⟩⟩)
/-! PatternTrier$Walker.setMark(I)Z -/
def t_Wa_setMark : List (Nat × Instr × Nat) := [(0, .aload_n 0, 1), (1, .iload_n 1, 1), (2, .invokevirtual 87, 3), (5, .aload_n 0, 1), (6, .getfield 96, 3), (9, .if_icmp .eq 35, 3), (12, .aload_n 0, 1), (13, .getfield 12, 3), (16, .iconst 2, 1), (17, .iload_n 1, 1), (18, .iconst 0, 1), (19, .aload_n 0, 1), (20, .iload_n 1, 1), (21, .invokevirtual 87, 3), (24, .iconst 1, 1), (25, .iadd, 1), (26, .invokestatic 157, 3), (29, .invokevirtual 161, 3), (32, .aload_n 0, 1), (33, .getfield 25, 3), (36, .iload_n 1, 1), (37, .aload_n 0, 1), (38, .getfield 96, 3), (41, .invokestatic 71, 3), (44, .aload_n 0, 1), (45, .invokevirtual 136, 3), (48, .ireturn, 1)]
set_option maxRecDepth 100000 in
theorem dt_Wa_setMark : q_ck n_Wa_setMark t_Wa_setMark = true := by decide +kernel
def c_Wa_setMark_32 (h1 : qH) (d : Nat) (x1 : Int) (B : qB) (Q : qO → qB → Prop) : Prop := 0 ≤ x1 ∧ x1 < 20 ∧ ob 5 ((u2 B 107 x1 (B 102 7)) 102 3).toNat ∧ 0 ≤ (u2 B 107 x1 (B 102 7)) 102 6 ∧ (u2 B 107 x1 (B 102 7)) 102 6 < 608 ∧ Q (.inl (some (iv 1))) (u2 (u2 B 107 x1 (B 102 7)) 102 6 ((u2 B 107 x1 (B 102 7)) (((u2 B 107 x1 (B 102 7)) 102 3).toNat + 3) ((u2 B 107 x1 (B 102 7)) 102 6)))
theorem c_Wa_setMark_32_ok {h1 : qH} {d : Nat} {x1 : Int} {B : qB} {Q : qO → qB → Prop} (hd : 2 ≤ d) (hS : SH B) (w : c_Wa_setMark_32 h1 d x1 B Q) : qY h1 (d + 1) n_Wa_setMark 32 [some (.ref 102), some (iv x1)] [] B Q := by
  unfold c_Wa_setMark_32 at w
  obtain ⟨p1, p2, p4, p5, p6, w⟩ := w
  refine y_ldk (ok := q_isA) (n := 0) (ck_at dt_Wa_setMark 18 rfl) rfl rfl (fun _ => rfl) rfl rfl ?_
  refine y_getF (r := 107) (K := 9) (j := 2) (a := 102) (ck_at dt_Wa_setMark 19 rfl) own_Wa_setMark (cf_at 43 rfl) rfl rfl ⟨(SH.o hS ⟨by decide, by decide, by decide⟩), ?_⟩
  refine y_ldk (ok := q_isI) (n := 1) (ck_at dt_Wa_setMark 20 rfl) rfl rfl (fun _ => rfl) rfl rfl ?_
  refine y_ldk (ok := q_isA) (n := 0) (ck_at dt_Wa_setMark 21 rfl) rfl rfl (fun _ => rfl) rfl rfl ?_
  refine y_getI (K := 9) (j := 7) (a := 102) (ck_at dt_Wa_setMark 22 rfl) own_Wa_setMark (cf_at 48 rfl) rfl rfl rfl ⟨(SH.o hS ⟨by decide, by decide, by decide⟩), ?_⟩
  refine y_stat3V (k' := n_P_put) (n := 0) (as := [.ref 107, iv x1, iv (B 102 7)]) (r := []) (ck_at dt_Wa_setMark 23 rfl) own_Wa_setMark (cm_at 92 rfl) (cs_at 21 rfl) vk_P_put rfl nl_P_put rfl rfl rfl rfl  (Y_P_put (by omega) hS (SH.a (t := 1) (a := 107) (n := 20) hS ⟨by decide, by decide, by decide, by decide⟩) (by decide) (by decide) p1 p2 ⟨rfl, rfl⟩) ?_
  have hS3 := SH_u2 (b := 107) (x := x1) (z := (B 102 7)) hS p1
  refine y_ldk (ok := q_isA) (n := 0) (ck_at dt_Wa_setMark 24 rfl) rfl rfl (fun _ => rfl) rfl rfl ?_
  refine y_virtP (k' := n_Wa_pass) (n := 0) (as := []) (r := []) (ck_at dt_Wa_setMark 25 rfl) own_Wa_setMark (cm_at 105 rfl) vk_Wa_pass rfl nl_Wa_pass rfl rfl rfl rfl (SH.o hS3 ⟨by decide, by decide, by decide⟩) (Y_Wa_pass (by omega) hS3 p4 p5 p6 ⟨rfl, rfl⟩) ?_
  have hS7 := SH_u2 (b := 102) (x := 6) (z := (u2 B 107 x1 (B 102 7)) (((u2 B 107 x1 (B 102 7)) 102 3).toNat + 3) ((u2 B 107 x1 (B 102 7)) 102 6)) hS3 (by decide)
  exact y_retZ (ck_at dt_Wa_setMark 26 rfl) rt_Wa_setMark (by decide) w
def c_Wa_setMark_0 (h1 : qH) (d : Nat) (x1 : Int) (B : qB) (Q : qO → qB → Prop) : Prop := 0 ≤ x1 ∧ x1 < 20 ∧ R32 (B 107 x1) ∧ R32 (B 102 7) ∧ (B 107 x1 = B 102 7 → ob 5 (B 102 3).toNat ∧ 0 ≤ B 102 6 ∧ B 102 6 < 608 ∧ Q (.inl (some (iv 1))) (u2 B 102 6 (B ((B 102 3).toNat + 3) (B 102 6)))) ∧ (¬ B 107 x1 = B 102 7 → pkO 2 x1 0 ((B 107 x1) + 1) ∧ qY h1 d n_Pi_push 0 [some (.ref 103), some (iv (pkV 2 x1 0 ((B 107 x1) + 1)))] [] B (fun o B' => o = .inl none ∧ SH B' ∧ c_Wa_setMark_32 h1 d x1 B' Q))
theorem c_Wa_setMark_0_ok {h1 : qH} {d : Nat} {x1 : Int} {B : qB} {Q : qO → qB → Prop} (hd : 2 ≤ d) (hS : SH B) (w : c_Wa_setMark_0 h1 d x1 B Q) : qY h1 (d + 1) n_Wa_setMark 0 [some (.ref 102), some (iv x1)] [] B Q := by
  unfold c_Wa_setMark_0 at w
  obtain ⟨p1, p2, p3, p4, w⟩ := w
  refine y_ldk (ok := q_isA) (n := 0) (ck_at dt_Wa_setMark 0 rfl) rfl rfl (fun _ => rfl) rfl rfl ?_
  refine y_ldk (ok := q_isI) (n := 1) (ck_at dt_Wa_setMark 1 rfl) rfl rfl (fun _ => rfl) rfl rfl ?_
  refine y_virtP (k' := n_Wa_mark) (n := 0) (as := [iv x1]) (r := []) (ck_at dt_Wa_setMark 2 rfl) own_Wa_setMark (cm_at 93 rfl) vk_Wa_mark rfl nl_Wa_mark rfl rfl rfl rfl (SH.o hS ⟨by decide, by decide, by decide⟩) (Y_Wa_mark (by omega) hS p1 p2 ⟨rfl, rfl⟩) ?_
  refine y_ldk (ok := q_isA) (n := 0) (ck_at dt_Wa_setMark 3 rfl) rfl rfl (fun _ => rfl) rfl rfl ?_
  refine y_getI (K := 9) (j := 7) (a := 102) (ck_at dt_Wa_setMark 4 rfl) own_Wa_setMark (cf_at 48 rfl) rfl rfl rfl ⟨(SH.o hS ⟨by decide, by decide, by decide⟩), ?_⟩
  refine y_icmp (t := 44) (ck_at dt_Wa_setMark 5 rfl) rfl p3 p4 ?_ ?_
  · intro q; have w := w.1 q
    obtain ⟨p5, p6, p7, w⟩ := w
    refine y_ldk (ok := q_isA) (n := 0) (ck_at dt_Wa_setMark 24 rfl) rfl rfl (fun _ => rfl) rfl rfl ?_
    refine y_virtP (k' := n_Wa_pass) (n := 0) (as := []) (r := []) (ck_at dt_Wa_setMark 25 rfl) own_Wa_setMark (cm_at 105 rfl) vk_Wa_pass rfl nl_Wa_pass rfl rfl rfl rfl (SH.o hS ⟨by decide, by decide, by decide⟩) (Y_Wa_pass (by omega) hS p5 p6 p7 ⟨rfl, rfl⟩) ?_
    have hS8 := SH_u2 (b := 102) (x := 6) (z := B ((B 102 3).toNat + 3) (B 102 6)) hS (by decide)
    exact y_retZ (ck_at dt_Wa_setMark 26 rfl) rt_Wa_setMark (by decide) w
  · intro q; have w := w.2 q
    obtain ⟨p9, w⟩ := w
    refine y_ldk (ok := q_isA) (n := 0) (ck_at dt_Wa_setMark 6 rfl) rfl rfl (fun _ => rfl) rfl rfl ?_
    refine y_getF (r := 103) (K := 9) (j := 0) (a := 102) (ck_at dt_Wa_setMark 7 rfl) own_Wa_setMark (cf_at 41 rfl) rfl rfl ⟨(SH.o hS ⟨by decide, by decide, by decide⟩), ?_⟩
    refine y_op (ck_at dt_Wa_setMark 8 rfl) rfl (o_const _) ?_
    refine y_ldk (ok := q_isI) (n := 1) (ck_at dt_Wa_setMark 9 rfl) rfl rfl (fun _ => rfl) rfl rfl ?_
    refine y_op (ck_at dt_Wa_setMark 10 rfl) rfl (o_const _) ?_
    refine y_ldk (ok := q_isA) (n := 0) (ck_at dt_Wa_setMark 11 rfl) rfl rfl (fun _ => rfl) rfl rfl ?_
    refine y_ldk (ok := q_isI) (n := 1) (ck_at dt_Wa_setMark 12 rfl) rfl rfl (fun _ => rfl) rfl rfl ?_
    refine y_virtP (k' := n_Wa_mark) (n := 0) (as := [iv x1]) (r := [iv 0, iv x1, iv 2, .ref 103]) (ck_at dt_Wa_setMark 13 rfl) own_Wa_setMark (cm_at 93 rfl) vk_Wa_mark rfl nl_Wa_mark rfl rfl rfl rfl (SH.o hS ⟨by decide, by decide, by decide⟩) (Y_Wa_mark (by omega) hS p1 p2 ⟨rfl, rfl⟩) ?_
    refine y_op (ck_at dt_Wa_setMark 14 rfl) rfl (o_const _) ?_
    refine y_op (ck_at dt_Wa_setMark 15 rfl) rfl o_iadd ?_
    refine y_statP (k' := n_Pi_pack) (n := 0) (as := [iv 2, iv x1, iv 0, iv ((B 107 x1) + 1)]) (r := [.ref 103]) (ck_at dt_Wa_setMark 16 rfl) own_Wa_setMark (cm_at 112 rfl) (cs_at 22 rfl) vk_Pi_pack rfl nl_Pi_pack rfl rfl rfl rfl  (Y_Pi_pack (by omega) hS p9 ⟨rfl, rfl⟩) ?_
    refine y_virt (k' := n_Pi_push) (n := 0) (as := [iv (pkV 2 x1 0 ((B 107 x1) + 1))]) (r := []) (ck_at dt_Wa_setMark 17 rfl) own_Wa_setMark (cm_at 113 rfl) vk_Pi_push rfl nl_Pi_push rfl rfl rfl rfl ⟨(SH.o hS ⟨by decide, by decide, by decide⟩), ?_⟩
    exact w.mono (Nat.le_refl _) (fun o B' ⟨ho, hS', w⟩ => Or.inl ⟨none, ho, y_wk (c_Wa_setMark_32_ok (by omega) hS' w) ⟨rfl, ⟨rfl, trivial⟩⟩⟩)
/-! PatternTrier$Walker.goBack(I)Z -/
def t_Wa_goBack : List (Nat × Instr × Nat) := [(0, .aload_n 0, 1), (1, .getfield 12, 3), (4, .invokevirtual 91, 3), (7, .istore_n 2, 1), (8, .iload_n 2, 1), (9, .iload_n 1, 1), (10, .if_icmp .le 131, 3), (13, .aload_n 0, 1), (14, .getfield 12, 3), (17, .invokevirtual 182, 3), (20, .istore_n 3, 1), (21, .iload_n 3, 1), (22, .invokestatic 185, 3), (25, .istore 4, 2), (27, .iload_n 3, 1), (28, .invokestatic 188, 3), (31, .istore 5, 2), (33, .iload_n 3, 1), (34, .invokestatic 191, 3), (37, .istore 6, 2), (39, .iload_n 3, 1), (40, .invokestatic 194, 3), (43, .iconst 2, 1), (44, .if_icmp .ne 19, 3), (47, .aload_n 0, 1), (48, .getfield 25, 3), (51, .iload 4, 2), (53, .iload 5, 2), (55, .iconst 1, 1), (56, .isub, 1), (57, .invokestatic 71, 3), (60, .goto 75, 3), (63, .iload_n 3, 1), (64, .invokestatic 194, 3), (67, .iconst 1, 1), (68, .if_icmp .ne 23, 3), (71, .aload_n 0, 1), (72, .getfield 21, 3), (75, .aload_n 0, 1), (76, .iload 4, 2), (78, .iload 5, 2), (80, .invokevirtual 151, 3), (83, .iload 6, 2), (85, .invokevirtual 195, 3), (88, .goto 47, 3), (91, .aload_n 0, 1), (92, .getfield 12, 3), (95, .iconst 1, 1), (96, .iload 4, 2), (98, .iload 6, 2), (100, .iload 5, 2), (102, .invokestatic 157, 3), (105, .invokevirtual 161, 3), (108, .aload_n 0, 1), (109, .aload_n 0, 1), (110, .getfield 29, 3), (113, .iload 4, 2), (115, .invokevirtual 176, 3), (118, .putfield 92, 3), (121, .aload_n 0, 1), (122, .iload 5, 2), (124, .putfield 96, 3), (127, .aload_n 0, 1), (128, .iload 6, 2), (130, .putfield 99, 3), (133, .iconst 1, 1), (134, .ireturn, 1), (135, .iinc 2 (-1), 3), (138, .goto (-130), 3), (141, .iconst 0, 1), (142, .ireturn, 1)]
set_option maxRecDepth 100000 in
theorem dt_Wa_goBack : q_ck n_Wa_goBack t_Wa_goBack = true := by decide +kernel
def c_Wa_goBack_135 (h1 : qH) (d : Nat) (x1 : Int) (x2 : Int) (B : qB) (Q : qO → qB → Prop) : Prop := qY h1 (d + 1) n_Wa_goBack 8 [some (.ref 102), some (iv x1), some (iv (x2 + (-1))), none, none, none, none] [] B Q
theorem c_Wa_goBack_135_ok {h1 : qH} {d : Nat} {x1 : Int} {x2 : Int} {B : qB} {Q : qO → qB → Prop} (hd : 2 ≤ d) (hS : SH B) (w : c_Wa_goBack_135 h1 d x1 x2 B Q) : qY h1 (d + 1) n_Wa_goBack 135 [some (.ref 102), some (iv x1), some (iv x2), none, none, none, none] [] B Q := by
  unfold c_Wa_goBack_135 at w
  refine y_iinc (n := 2) (L' := [some (.ref 102), some (iv x1), some (iv (x2 + (-1))), none, none, none, none]) (ck_at dt_Wa_goBack 67 rfl) rfl nl_Wa_goBack (by decide) rfl rfl ?_
  refine y_goto (t := 8) (ck_at dt_Wa_goBack 68 rfl) rfl ?_
  exact y_wk w ⟨rfl, ⟨rfl, ⟨rfl, trivial⟩⟩⟩
def c_Wa_goBack_108 (h1 : qH) (d : Nat) (x4 : Int) (x5 : Int) (x6 : Int) (B : qB) (Q : qO → qB → Prop) : Prop := ob 5 ((B 102 3).toNat) ∧ 0 ≤ x4 ∧ x4 < 608 ∧ Q (.inl (some (iv 1))) (u2 (u2 (u2 B 102 6 (B (((B 102 3).toNat) + 4) x4)) 102 7 x5) 102 8 x6)
theorem c_Wa_goBack_108_ok {h1 : qH} {d : Nat} {x4 : Int} {x5 : Int} {x6 : Int} {B : qB} {Q : qO → qB → Prop} (hd : 2 ≤ d) (hS : SH B) (w : c_Wa_goBack_108 h1 d x4 x5 x6 B Q) : qY h1 (d + 1) n_Wa_goBack 108 [some (.ref 102), none, none, none, some (iv x4), some (iv x5), some (iv x6)] [] B Q := by
  unfold c_Wa_goBack_108 at w
  obtain ⟨p1, p2, p3, w⟩ := w
  refine y_ldk (ok := q_isA) (n := 0) (ck_at dt_Wa_goBack 53 rfl) rfl rfl (fun _ => rfl) rfl rfl ?_
  refine y_ldk (ok := q_isA) (n := 0) (ck_at dt_Wa_goBack 54 rfl) rfl rfl (fun _ => rfl) rfl rfl ?_
  refine y_getD (K := 9) (j := 3) (a := 102) (ck_at dt_Wa_goBack 55 rfl) own_Wa_goBack (cf_at 44 rfl) rfl rfl rfl ⟨(SH.o hS ⟨by decide, by decide, by decide⟩), ?_⟩
  refine y_ldk (ok := q_isI) (n := 4) (ck_at dt_Wa_goBack 56 rfl) rfl rfl (fun _ => rfl) rfl rfl ?_
  refine y_virtP (k' := n_Pr_otherOf) (n := 0) (as := [iv x4]) (r := [.ref 102]) (ck_at dt_Wa_goBack 57 rfl) own_Wa_goBack (cm_at 118 rfl) vk_Pr_otherOf rfl nl_Pr_otherOf rfl rfl rfl rfl (SH.o hS p1) (Y_Pr_otherOf (by omega) hS p1 p2 p3 ⟨rfl, rfl⟩) ?_
  refine y_putI (K := 9) (j := 6) (a := 102) (ck_at dt_Wa_goBack 58 rfl) own_Wa_goBack (cf_at 47 rfl) rfl rfl rfl rfl rfl ⟨⟨SH.o hS ⟨by decide, by decide, by decide⟩, by decide⟩, ?_⟩
  have hS4 := SH_u2 (b := 102) (x := 6) (z := B (((B 102 3).toNat) + 4) x4) hS (by decide)
  refine y_ldk (ok := q_isA) (n := 0) (ck_at dt_Wa_goBack 59 rfl) rfl rfl (fun _ => rfl) rfl rfl ?_
  refine y_ldk (ok := q_isI) (n := 5) (ck_at dt_Wa_goBack 60 rfl) rfl rfl (fun _ => rfl) rfl rfl ?_
  refine y_putI (K := 9) (j := 7) (a := 102) (ck_at dt_Wa_goBack 61 rfl) own_Wa_goBack (cf_at 48 rfl) rfl rfl rfl rfl rfl ⟨⟨SH.o hS4 ⟨by decide, by decide, by decide⟩, by decide⟩, ?_⟩
  have hS5 := SH_u2 (b := 102) (x := 7) (z := x5) hS4 (by decide)
  refine y_ldk (ok := q_isA) (n := 0) (ck_at dt_Wa_goBack 62 rfl) rfl rfl (fun _ => rfl) rfl rfl ?_
  refine y_ldk (ok := q_isI) (n := 6) (ck_at dt_Wa_goBack 63 rfl) rfl rfl (fun _ => rfl) rfl rfl ?_
  refine y_putI (K := 9) (j := 8) (a := 102) (ck_at dt_Wa_goBack 64 rfl) own_Wa_goBack (cf_at 49 rfl) rfl rfl rfl rfl rfl ⟨⟨SH.o hS5 ⟨by decide, by decide, by decide⟩, by decide⟩, ?_⟩
  have hS6 := SH_u2 (b := 102) (x := 8) (z := x6) hS5 (by decide)
  refine y_op (ck_at dt_Wa_goBack 65 rfl) rfl (o_const _) ?_
  exact y_retZ (ck_at dt_Wa_goBack 66 rfl) rt_Wa_goBack (by decide) w
def c_Wa_goBack_88 (h1 : qH) (d : Nat) (x1 : Int) (x2 : Int) (B : qB) (Q : qO → qB → Prop) : Prop := c_Wa_goBack_135 h1 d x1 x2 B Q
theorem c_Wa_goBack_88_ok {h1 : qH} {d : Nat} {x1 : Int} {x2 : Int} {B : qB} {Q : qO → qB → Prop} (hd : 2 ≤ d) (hS : SH B) (w : c_Wa_goBack_88 h1 d x1 x2 B Q) : qY h1 (d + 1) n_Wa_goBack 88 [some (.ref 102), some (iv x1), some (iv x2), none, none, none, none] [] B Q := by
  unfold c_Wa_goBack_88 at w
  refine y_goto (t := 135) (ck_at dt_Wa_goBack 44 rfl) rfl ?_
  exact y_wk (c_Wa_goBack_135_ok (by omega) hS w) ⟨rfl, ⟨rfl, ⟨rfl, trivial⟩⟩⟩
def c_Wa_goBack_20 (h1 : qH) (d : Nat) (x1 : Int) (x2 : Int) (s0 : Int) (B : qB) (Q : qO → qB → Prop) : Prop := enO s0 ∧ R32 (s0 / 16777216) ∧ (¬ s0 / 16777216 = 2 → (¬ s0 / 16777216 = 1 → pkO 1 (s0 / 16384 % 1024) (s0 / 1024 % 16) (s0 % 1024) ∧ qY h1 d n_Pi_push 0 [some (.ref 103), some (iv (pkV 1 (s0 / 16384 % 1024) (s0 / 1024 % 16) (s0 % 1024)))] [] B (fun o B' => o = .inl none ∧ SH B' ∧ c_Wa_goBack_108 h1 d (s0 / 16384 % 1024) (s0 % 1024) (s0 / 1024 % 16) B' Q)) ∧ (s0 / 16777216 = 1 → ob 5 (B 102 3).toNat ∧ ob 1 (B 102 4).toNat ∧ 0 ≤ (s0 / 16384 % 1024) ∧ (s0 / 16384 % 1024) < 608 ∧ qY h1 d n_Fl_add 0 [some (.ref 105), some (iv (keV B (s0 / 16384 % 1024) (s0 % 1024))), some (iv (s0 / 1024 % 16)), none, none] [] B (fun o B' => o = .inl none ∧ SH B' ∧ c_Wa_goBack_88 h1 d x1 x2 B' Q))) ∧ (s0 / 16777216 = 2 → 0 ≤ (s0 / 16384 % 1024) ∧ (s0 / 16384 % 1024) < 20 ∧ c_Wa_goBack_135 h1 d x1 x2 (u2 B 107 (s0 / 16384 % 1024) ((s0 % 1024) - 1)) Q)
theorem c_Wa_goBack_20_ok {h1 : qH} {d : Nat} {x1 : Int} {x2 : Int} {s0 : Int} {B : qB} {Q : qO → qB → Prop} (hd : 2 ≤ d) (hS : SH B) (w : c_Wa_goBack_20 h1 d x1 x2 s0 B Q) : qY h1 (d + 1) n_Wa_goBack 20 [some (.ref 102), some (iv x1), some (iv x2), none, none, none, none] [iv s0] B Q := by
  unfold c_Wa_goBack_20 at w
  obtain ⟨p1, p2, w⟩ := w
  refine y_st1 (ok := q_isI) (n := 3) (L' := [some (.ref 102), some (iv x1), some (iv x2), some (iv s0), none, none, none]) (ck_at dt_Wa_goBack 10 rfl) rfl (fun _ => rfl) (fun _ _ => rfl) rfl nl_Wa_goBack (by decide) rfl rfl ?_
  refine y_ldk (ok := q_isI) (n := 3) (ck_at dt_Wa_goBack 11 rfl) rfl rfl (fun _ => rfl) rfl rfl ?_
  refine y_statP (k' := n_Pi_stepOf) (n := 0) (as := [iv s0]) (r := []) (ck_at dt_Wa_goBack 12 rfl) own_Wa_goBack (cm_at 121 rfl) (cs_at 26 rfl) vk_Pi_stepOf rfl nl_Pi_stepOf rfl rfl rfl rfl  (Y_Pi_stepOf (by omega) hS p1 ⟨rfl, rfl⟩) ?_
  refine y_st1 (ok := q_isI) (n := 4) (L' := [some (.ref 102), some (iv x1), some (iv x2), some (iv s0), some (iv (s0 / 16384 % 1024)), none, none]) (ck_at dt_Wa_goBack 13 rfl) rfl (fun _ => rfl) (fun _ _ => rfl) rfl nl_Wa_goBack (by decide) rfl rfl ?_
  refine y_ldk (ok := q_isI) (n := 3) (ck_at dt_Wa_goBack 14 rfl) rfl rfl (fun _ => rfl) rfl rfl ?_
  refine y_statP (k' := n_Pi_placeOf) (n := 0) (as := [iv s0]) (r := []) (ck_at dt_Wa_goBack 15 rfl) own_Wa_goBack (cm_at 122 rfl) (cs_at 27 rfl) vk_Pi_placeOf rfl nl_Pi_placeOf rfl rfl rfl rfl  (Y_Pi_placeOf (by omega) hS p1 ⟨rfl, rfl⟩) ?_
  refine y_st1 (ok := q_isI) (n := 5) (L' := [some (.ref 102), some (iv x1), some (iv x2), some (iv s0), some (iv (s0 / 16384 % 1024)), some (iv (s0 % 1024)), none]) (ck_at dt_Wa_goBack 16 rfl) rfl (fun _ => rfl) (fun _ _ => rfl) rfl nl_Wa_goBack (by decide) rfl rfl ?_
  refine y_ldk (ok := q_isI) (n := 3) (ck_at dt_Wa_goBack 17 rfl) rfl rfl (fun _ => rfl) rfl rfl ?_
  refine y_statP (k' := n_Pi_takenOf) (n := 0) (as := [iv s0]) (r := []) (ck_at dt_Wa_goBack 18 rfl) own_Wa_goBack (cm_at 123 rfl) (cs_at 28 rfl) vk_Pi_takenOf rfl nl_Pi_takenOf rfl rfl rfl rfl  (Y_Pi_takenOf (by omega) hS p1 ⟨rfl, rfl⟩) ?_
  refine y_st1 (ok := q_isI) (n := 6) (L' := [some (.ref 102), some (iv x1), some (iv x2), some (iv s0), some (iv (s0 / 16384 % 1024)), some (iv (s0 % 1024)), some (iv (s0 / 1024 % 16))]) (ck_at dt_Wa_goBack 19 rfl) rfl (fun _ => rfl) (fun _ _ => rfl) rfl nl_Wa_goBack (by decide) rfl rfl ?_
  refine y_ldk (ok := q_isI) (n := 3) (ck_at dt_Wa_goBack 20 rfl) rfl rfl (fun _ => rfl) rfl rfl ?_
  refine y_statP (k' := n_Pi_kindOf) (n := 0) (as := [iv s0]) (r := []) (ck_at dt_Wa_goBack 21 rfl) own_Wa_goBack (cm_at 124 rfl) (cs_at 29 rfl) vk_Pi_kindOf rfl nl_Pi_kindOf rfl rfl rfl rfl  (Y_Pi_kindOf (by omega) hS p1 ⟨rfl, rfl⟩) ?_
  refine y_op (ck_at dt_Wa_goBack 22 rfl) rfl (o_const _) ?_
  refine y_icmp (t := 63) (ck_at dt_Wa_goBack 23 rfl) rfl p2 ⟨by decide, by decide⟩ ?_ ?_
  · intro q; have w := w.1 q
    refine y_ldk (ok := q_isI) (n := 3) (ck_at dt_Wa_goBack 32 rfl) rfl rfl (fun _ => rfl) rfl rfl ?_
    refine y_statP (k' := n_Pi_kindOf) (n := 0) (as := [iv s0]) (r := []) (ck_at dt_Wa_goBack 33 rfl) own_Wa_goBack (cm_at 124 rfl) (cs_at 29 rfl) vk_Pi_kindOf rfl nl_Pi_kindOf rfl rfl rfl rfl  (Y_Pi_kindOf (by omega) hS p1 ⟨rfl, rfl⟩) ?_
    refine y_op (ck_at dt_Wa_goBack 34 rfl) rfl (o_const _) ?_
    refine y_icmp (t := 91) (ck_at dt_Wa_goBack 35 rfl) rfl p2 ⟨by decide, by decide⟩ ?_ ?_
    · intro q; have w := w.1 q
      obtain ⟨p3, w⟩ := w
      refine y_ldk (ok := q_isA) (n := 0) (ck_at dt_Wa_goBack 45 rfl) rfl rfl (fun _ => rfl) rfl rfl ?_
      refine y_getF (r := 103) (K := 9) (j := 0) (a := 102) (ck_at dt_Wa_goBack 46 rfl) own_Wa_goBack (cf_at 41 rfl) rfl rfl ⟨(SH.o hS ⟨by decide, by decide, by decide⟩), ?_⟩
      refine y_op (ck_at dt_Wa_goBack 47 rfl) rfl (o_const _) ?_
      refine y_ldk (ok := q_isI) (n := 4) (ck_at dt_Wa_goBack 48 rfl) rfl rfl (fun _ => rfl) rfl rfl ?_
      refine y_ldk (ok := q_isI) (n := 6) (ck_at dt_Wa_goBack 49 rfl) rfl rfl (fun _ => rfl) rfl rfl ?_
      refine y_ldk (ok := q_isI) (n := 5) (ck_at dt_Wa_goBack 50 rfl) rfl rfl (fun _ => rfl) rfl rfl ?_
      refine y_statP (k' := n_Pi_pack) (n := 0) (as := [iv 1, iv (s0 / 16384 % 1024), iv (s0 / 1024 % 16), iv (s0 % 1024)]) (r := [.ref 103]) (ck_at dt_Wa_goBack 51 rfl) own_Wa_goBack (cm_at 112 rfl) (cs_at 22 rfl) vk_Pi_pack rfl nl_Pi_pack rfl rfl rfl rfl  (Y_Pi_pack (by omega) hS p3 ⟨rfl, rfl⟩) ?_
      refine y_virt (k' := n_Pi_push) (n := 0) (as := [iv (pkV 1 (s0 / 16384 % 1024) (s0 / 1024 % 16) (s0 % 1024))]) (r := []) (ck_at dt_Wa_goBack 52 rfl) own_Wa_goBack (cm_at 113 rfl) vk_Pi_push rfl nl_Pi_push rfl rfl rfl rfl ⟨(SH.o hS ⟨by decide, by decide, by decide⟩), ?_⟩
      exact w.mono (Nat.le_refl _) (fun o B' ⟨ho, hS', w⟩ => Or.inl ⟨none, ho, y_wk (c_Wa_goBack_108_ok (by omega) hS' w) ⟨rfl, ⟨rfl, ⟨rfl, ⟨rfl, trivial⟩⟩⟩⟩⟩)
    · intro q; have w := w.2 q
      obtain ⟨p4, p5, p6, p7, w⟩ := w
      refine y_ldk (ok := q_isA) (n := 0) (ck_at dt_Wa_goBack 36 rfl) rfl rfl (fun _ => rfl) rfl rfl ?_
      refine y_getF (r := 105) (K := 9) (j := 1) (a := 102) (ck_at dt_Wa_goBack 37 rfl) own_Wa_goBack (cf_at 42 rfl) rfl rfl ⟨(SH.o hS ⟨by decide, by decide, by decide⟩), ?_⟩
      refine y_ldk (ok := q_isA) (n := 0) (ck_at dt_Wa_goBack 38 rfl) rfl rfl (fun _ => rfl) rfl rfl ?_
      refine y_ldk (ok := q_isI) (n := 4) (ck_at dt_Wa_goBack 39 rfl) rfl rfl (fun _ => rfl) rfl rfl ?_
      refine y_ldk (ok := q_isI) (n := 5) (ck_at dt_Wa_goBack 40 rfl) rfl rfl (fun _ => rfl) rfl rfl ?_
      refine y_virtP (k' := n_Wa_key) (n := 0) (as := [iv (s0 / 16384 % 1024), iv (s0 % 1024)]) (r := [.ref 105]) (ck_at dt_Wa_goBack 41 rfl) own_Wa_goBack (cm_at 110 rfl) vk_Wa_key rfl nl_Wa_key rfl rfl rfl rfl (SH.o hS ⟨by decide, by decide, by decide⟩) (Y_Wa_key (by omega) hS p4 p5 p6 p7 ⟨rfl, rfl⟩) ?_
      refine y_ldk (ok := q_isI) (n := 6) (ck_at dt_Wa_goBack 42 rfl) rfl rfl (fun _ => rfl) rfl rfl ?_
      refine y_virt (k' := n_Fl_add) (n := 2) (as := [iv (keV B (s0 / 16384 % 1024) (s0 % 1024)), iv (s0 / 1024 % 16)]) (r := []) (ck_at dt_Wa_goBack 43 rfl) own_Wa_goBack (cm_at 125 rfl) vk_Fl_add rfl nl_Fl_add rfl rfl rfl rfl ⟨(SH.o hS ⟨by decide, by decide, by decide⟩), ?_⟩
      exact w.mono (Nat.le_refl _) (fun o B' ⟨ho, hS', w⟩ => Or.inl ⟨none, ho, y_wk (c_Wa_goBack_88_ok (by omega) hS' w) ⟨rfl, ⟨rfl, ⟨rfl, trivial⟩⟩⟩⟩)
  · intro q; have w := w.2 q
    obtain ⟨p8, p9, w⟩ := w
    refine y_ldk (ok := q_isA) (n := 0) (ck_at dt_Wa_goBack 24 rfl) rfl rfl (fun _ => rfl) rfl rfl ?_
    refine y_getF (r := 107) (K := 9) (j := 2) (a := 102) (ck_at dt_Wa_goBack 25 rfl) own_Wa_goBack (cf_at 43 rfl) rfl rfl ⟨(SH.o hS ⟨by decide, by decide, by decide⟩), ?_⟩
    refine y_ldk (ok := q_isI) (n := 4) (ck_at dt_Wa_goBack 26 rfl) rfl rfl (fun _ => rfl) rfl rfl ?_
    refine y_ldk (ok := q_isI) (n := 5) (ck_at dt_Wa_goBack 27 rfl) rfl rfl (fun _ => rfl) rfl rfl ?_
    refine y_op (ck_at dt_Wa_goBack 28 rfl) rfl (o_const _) ?_
    refine y_op (ck_at dt_Wa_goBack 29 rfl) rfl o_isub ?_
    refine y_stat3V (k' := n_P_put) (n := 0) (as := [.ref 107, iv (s0 / 16384 % 1024), iv ((s0 % 1024) - 1)]) (r := []) (ck_at dt_Wa_goBack 30 rfl) own_Wa_goBack (cm_at 92 rfl) (cs_at 21 rfl) vk_P_put rfl nl_P_put rfl rfl rfl rfl  (Y_P_put (by omega) hS (SH.a (t := 1) (a := 107) (n := 20) hS ⟨by decide, by decide, by decide, by decide⟩) (by decide) (by decide) p8 p9 ⟨rfl, rfl⟩) ?_
    have hS10 := SH_u2 (b := 107) (x := (s0 / 16384 % 1024)) (z := ((s0 % 1024) - 1)) hS p8
    refine y_goto (t := 135) (ck_at dt_Wa_goBack 31 rfl) rfl ?_
    exact y_wk (c_Wa_goBack_135_ok (by omega) hS10 w) ⟨rfl, ⟨rfl, ⟨rfl, trivial⟩⟩⟩
def c_Wa_goBack_8 (h1 : qH) (d : Nat) (x1 : Int) (x2 : Int) (B : qB) (Q : qO → qB → Prop) : Prop := R32 x2 ∧ R32 x1 ∧ (x2 ≤ x1 → Q (.inl (some (iv 0))) B) ∧ (x2 > x1 → qY h1 d n_Pi_pop 0 [some (.ref 103)] [] B (fun o B' => ∃ v : Int, o = .inl (some (iv v)) ∧ SH B' ∧ c_Wa_goBack_20 h1 d x1 x2 v B' Q))
theorem c_Wa_goBack_8_ok {h1 : qH} {d : Nat} {x1 : Int} {x2 : Int} {B : qB} {Q : qO → qB → Prop} (hd : 2 ≤ d) (hS : SH B) (w : c_Wa_goBack_8 h1 d x1 x2 B Q) : qY h1 (d + 1) n_Wa_goBack 8 [some (.ref 102), some (iv x1), some (iv x2), none, none, none, none] [] B Q := by
  unfold c_Wa_goBack_8 at w
  obtain ⟨p1, p2, w⟩ := w
  refine y_ldk (ok := q_isI) (n := 2) (ck_at dt_Wa_goBack 4 rfl) rfl rfl (fun _ => rfl) rfl rfl ?_
  refine y_ldk (ok := q_isI) (n := 1) (ck_at dt_Wa_goBack 5 rfl) rfl rfl (fun _ => rfl) rfl rfl ?_
  refine y_icmp (t := 141) (ck_at dt_Wa_goBack 6 rfl) rfl p1 p2 ?_ ?_
  · intro q; have w := w.1 q
    refine y_op (ck_at dt_Wa_goBack 69 rfl) rfl (o_const _) ?_
    exact y_retZ (ck_at dt_Wa_goBack 70 rfl) rt_Wa_goBack (by decide) w
  · intro q; have w := w.2 q
    refine y_ldk (ok := q_isA) (n := 0) (ck_at dt_Wa_goBack 7 rfl) rfl rfl (fun _ => rfl) rfl rfl ?_
    refine y_getF (r := 103) (K := 9) (j := 0) (a := 102) (ck_at dt_Wa_goBack 8 rfl) own_Wa_goBack (cf_at 41 rfl) rfl rfl ⟨(SH.o hS ⟨by decide, by decide, by decide⟩), ?_⟩
    refine y_virt (k' := n_Pi_pop) (n := 0) (as := []) (r := []) (ck_at dt_Wa_goBack 9 rfl) own_Wa_goBack (cm_at 120 rfl) vk_Pi_pop rfl nl_Pi_pop rfl rfl rfl rfl ⟨(SH.o hS ⟨by decide, by decide, by decide⟩), ?_⟩
    exact w.mono (Nat.le_refl _) (fun o B' ⟨v, ho, hS', w⟩ => Or.inl ⟨some (iv v), ho, y_wk (c_Wa_goBack_20_ok (by omega) hS' w) ⟨rfl, ⟨rfl, ⟨rfl, trivial⟩⟩⟩⟩)
def c_Wa_goBack_0 (h1 : qH) (d : Nat) (x1 : Int) (B : qB) (Q : qO → qB → Prop) : Prop := qY h1 (d + 1) n_Wa_goBack 8 [some (.ref 102), some (iv x1), some (iv (B 103 1)), none, none, none, none] [] B Q
theorem c_Wa_goBack_0_ok {h1 : qH} {d : Nat} {x1 : Int} {B : qB} {Q : qO → qB → Prop} (hd : 2 ≤ d) (hS : SH B) (w : c_Wa_goBack_0 h1 d x1 B Q) : qY h1 (d + 1) n_Wa_goBack 0 [some (.ref 102), some (iv x1), none, none, none, none, none] [] B Q := by
  unfold c_Wa_goBack_0 at w
  refine y_ldk (ok := q_isA) (n := 0) (ck_at dt_Wa_goBack 0 rfl) rfl rfl (fun _ => rfl) rfl rfl ?_
  refine y_getF (r := 103) (K := 9) (j := 0) (a := 102) (ck_at dt_Wa_goBack 1 rfl) own_Wa_goBack (cf_at 41 rfl) rfl rfl ⟨(SH.o hS ⟨by decide, by decide, by decide⟩), ?_⟩
  refine y_virtP (k' := n_Pi_size) (n := 0) (as := []) (r := []) (ck_at dt_Wa_goBack 2 rfl) own_Wa_goBack (cm_at 94 rfl) vk_Pi_size rfl nl_Pi_size rfl rfl rfl rfl (SH.o hS ⟨by decide, by decide, by decide⟩) (Y_Pi_size (by omega) hS ⟨rfl, rfl⟩) ?_
  refine y_st1 (ok := q_isI) (n := 2) (L' := [some (.ref 102), some (iv x1), some (iv (B 103 1)), none, none, none, none]) (ck_at dt_Wa_goBack 3 rfl) rfl (fun _ => rfl) (fun _ _ => rfl) rfl nl_Wa_goBack (by decide) rfl rfl ?_
  exact y_wk w ⟨rfl, ⟨rfl, ⟨rfl, trivial⟩⟩⟩
/-! PatternTrier$Walker.walkApart(I)Z -/
def t_Wa_walkApart : List (Nat × Instr × Nat) := [(0, .iload_n 1, 1), (1, .ifCond .gt 29, 3), (4, .aload_n 0, 1), (5, .getfield 21, 3), (8, .aload_n 0, 1), (9, .aload_n 0, 1), (10, .getfield 92, 3), (13, .aload_n 0, 1), (14, .getfield 96, 3), (17, .invokevirtual 151, 3), (20, .aload_n 0, 1), (21, .getfield 99, 3), (24, .invokevirtual 154, 3), (27, .ifCond .eq 5, 3), (30, .iconst 0, 1), (31, .ireturn, 1), (32, .aload_n 0, 1), (33, .getfield 92, 3), (36, .istore_n 2, 1), (37, .aload_n 0, 1), (38, .getfield 96, 3), (41, .istore_n 3, 1), (42, .aload_n 0, 1), (43, .getfield 99, 3), (46, .istore 4, 2), (48, .aload_n 0, 1), (49, .getfield 12, 3), (52, .iconst 1, 1), (53, .iload_n 2, 1), (54, .iload 4, 2), (56, .iload_n 3, 1), (57, .invokestatic 157, 3), (60, .invokevirtual 161, 3), (63, .aload_n 0, 1), (64, .getfield 12, 3), (67, .invokevirtual 91, 3), (70, .istore 5, 2), (72, .aload_n 0, 1), (73, .aload_n 0, 1), (74, .getfield 29, 3), (77, .iload_n 2, 1), (78, .invokevirtual 176, 3), (81, .iload_n 3, 1), (82, .iload_n 1, 1), (83, .iconst 1, 1), (84, .iadd, 1), (85, .invokevirtual 67, 3), (88, .istore 6, 2), (90, .aload_n 0, 1), (91, .getfield 12, 3), (94, .iload 5, 2), (96, .invokevirtual 179, 3), (99, .aload_n 0, 1), (100, .getfield 29, 3), (103, .iload_n 2, 1), (104, .invokevirtual 113, 3), (107, .istore 7, 2), (109, .iload 6, 2), (111, .iconst (-1), 1), (112, .if_icmp .ne 7, 3), (115, .iconst 1, 1), (116, .goto 4, 3), (119, .iconst 0, 1), (120, .iload 7, 2), (122, .bipush 8, 2), (124, .if_icmp .ne 7, 3), (127, .iconst 1, 1), (128, .goto 4, 3), (131, .iconst 0, 1), (132, .if_icmp .eq 5, 3), (135, .iconst 0, 1), (136, .ireturn, 1), (137, .aload_n 0, 1), (138, .aload_n 0, 1), (139, .getfield 29, 3), (142, .iload_n 2, 1), (143, .invokevirtual 145, 3), (146, .putfield 92, 3), (149, .iload 7, 2), (151, .bipush 14, 2), (153, .if_icmp .ne 13, 3), (156, .iload 6, 2), (158, .iload_n 3, 1), (159, .if_icmp .le 7, 3), (162, .iconst 1, 1), (163, .goto 4, 3), (166, .iconst 0, 1), (167, .istore 8, 2), (169, .aload_n 0, 1), (170, .iload 8, 2), (172, .ifCond .eq 8, 3), (175, .iload 6, 2), (177, .goto 4, 3), (180, .iload_n 3, 1), (181, .putfield 96, 3), (184, .aload_n 0, 1), (185, .iload 8, 2), (187, .ifCond .eq 14, 3), (190, .aload_n 0, 1), (191, .getfield 29, 3), (194, .iload_n 2, 1), (195, .invokevirtual 148, 3), (198, .goto 5, 3), (201, .iload 4, 2), (203, .putfield 99, 3), (206, .iconst 1, 1), (207, .ireturn, 1)]
set_option maxRecDepth 100000 in
theorem dt_Wa_walkApart : q_ck n_Wa_walkApart t_Wa_walkApart = true := by decide +kernel
def c_Wa_walkApart_181 (h1 : qH) (d : Nat) (x2 : Int) (x4 : Int) (x8 : Int) (s1 : Int) (B : qB) (Q : qO → qB → Prop) : Prop := R32 x8 ∧ (x8 = 0 → Q (.inl (some (iv 1))) (u2 (u2 B 102 7 s1) 102 8 x4)) ∧ (¬ x8 = 0 → ob 5 ((B 102 3).toNat) ∧ 0 ≤ x2 ∧ x2 < 608 ∧ Q (.inl (some (iv 1))) (u2 (u2 B 102 7 s1) 102 8 ((u2 B 102 7 s1) (((B 102 3).toNat) + 5) x2)))
theorem c_Wa_walkApart_181_ok {h1 : qH} {d : Nat} {x2 : Int} {x4 : Int} {x8 : Int} {s1 : Int} {B : qB} {Q : qO → qB → Prop} (hd : 2 ≤ d) (hS : SH B) (w : c_Wa_walkApart_181 h1 d x2 x4 x8 s1 B Q) : qY h1 (d + 1) n_Wa_walkApart 181 [some (.ref 102), none, some (iv x2), none, some (iv x4), none, none, none, some (iv x8)] [iv s1, .ref 102] B Q := by
  unfold c_Wa_walkApart_181 at w
  obtain ⟨p2, w⟩ := w
  refine y_putI (K := 9) (j := 7) (a := 102) (ck_at dt_Wa_walkApart 94 rfl) own_Wa_walkApart (cf_at 48 rfl) rfl rfl rfl rfl rfl ⟨⟨SH.o hS ⟨by decide, by decide, by decide⟩, by decide⟩, ?_⟩
  have hS1 := SH_u2 (b := 102) (x := 7) (z := s1) hS (by decide)
  refine y_ldk (ok := q_isA) (n := 0) (ck_at dt_Wa_walkApart 95 rfl) rfl rfl (fun _ => rfl) rfl rfl ?_
  refine y_ldk (ok := q_isI) (n := 8) (ck_at dt_Wa_walkApart 96 rfl) rfl rfl (fun _ => rfl) rfl rfl ?_
  refine y_ifz (t := 201) (ck_at dt_Wa_walkApart 97 rfl) rfl p2 ?_ ?_
  · intro q; have w := w.1 q
    refine y_ldk (ok := q_isI) (n := 4) (ck_at dt_Wa_walkApart 103 rfl) rfl rfl (fun _ => rfl) rfl rfl ?_
    refine y_putI (K := 9) (j := 8) (a := 102) (ck_at dt_Wa_walkApart 104 rfl) own_Wa_walkApart (cf_at 49 rfl) rfl rfl rfl rfl rfl ⟨⟨SH.o hS1 ⟨by decide, by decide, by decide⟩, by decide⟩, ?_⟩
    have hS3 := SH_u2 (b := 102) (x := 8) (z := x4) hS1 (by decide)
    refine y_op (ck_at dt_Wa_walkApart 105 rfl) rfl (o_const _) ?_
    exact y_retZ (ck_at dt_Wa_walkApart 106 rfl) rt_Wa_walkApart (by decide) w
  · intro q; have w := w.2 q
    obtain ⟨p4, p5, p6, w⟩ := w
    refine y_ldk (ok := q_isA) (n := 0) (ck_at dt_Wa_walkApart 98 rfl) rfl rfl (fun _ => rfl) rfl rfl ?_
    refine y_getD (K := 9) (j := 3) (a := 102) (ck_at dt_Wa_walkApart 99 rfl) own_Wa_walkApart (cf_at 44 rfl) rfl rfl rfl ⟨(SH.o hS1 ⟨by decide, by decide, by decide⟩), ?_⟩
    refine y_ldk (ok := q_isI) (n := 2) (ck_at dt_Wa_walkApart 100 rfl) rfl rfl (fun _ => rfl) rfl rfl ?_
    refine y_virtP (k' := n_Pr_depthOf) (n := 0) (as := [iv x2]) (r := [.ref 102]) (ck_at dt_Wa_walkApart 101 rfl) own_Wa_walkApart (cm_at 109 rfl) vk_Pr_depthOf rfl nl_Pr_depthOf rfl rfl rfl rfl (SH.o hS1 p4) (Y_Pr_depthOf (by omega) hS1 p4 p5 p6 ⟨rfl, rfl⟩) ?_
    refine y_goto (t := 203) (ck_at dt_Wa_walkApart 102 rfl) rfl ?_
    refine y_putI (K := 9) (j := 8) (a := 102) (ck_at dt_Wa_walkApart 104 rfl) own_Wa_walkApart (cf_at 49 rfl) rfl rfl rfl rfl rfl ⟨⟨SH.o hS1 ⟨by decide, by decide, by decide⟩, by decide⟩, ?_⟩
    have hS7 := SH_u2 (b := 102) (x := 8) (z := (u2 B 102 7 s1) (((B 102 3).toNat) + 5) x2) hS1 (by decide)
    refine y_op (ck_at dt_Wa_walkApart 105 rfl) rfl (o_const _) ?_
    exact y_retZ (ck_at dt_Wa_walkApart 106 rfl) rt_Wa_walkApart (by decide) w
def c_Wa_walkApart_167 (h1 : qH) (d : Nat) (x2 : Int) (x3 : Int) (x4 : Int) (x6 : Int) (s0 : Int) (B : qB) (Q : qO → qB → Prop) : Prop := R32 s0 ∧ (s0 = 0 → c_Wa_walkApart_181 h1 d x2 x4 s0 x3 B Q) ∧ (¬ s0 = 0 → c_Wa_walkApart_181 h1 d x2 x4 s0 x6 B Q)
theorem c_Wa_walkApart_167_ok {h1 : qH} {d : Nat} {x2 : Int} {x3 : Int} {x4 : Int} {x6 : Int} {s0 : Int} {B : qB} {Q : qO → qB → Prop} (hd : 2 ≤ d) (hS : SH B) (w : c_Wa_walkApart_167 h1 d x2 x3 x4 x6 s0 B Q) : qY h1 (d + 1) n_Wa_walkApart 167 [some (.ref 102), none, some (iv x2), some (iv x3), some (iv x4), none, some (iv x6), none, none] [iv s0] B Q := by
  unfold c_Wa_walkApart_167 at w
  obtain ⟨p1, w⟩ := w
  refine y_st1 (ok := q_isI) (n := 8) (L' := [some (.ref 102), none, some (iv x2), some (iv x3), some (iv x4), none, some (iv x6), none, some (iv s0)]) (ck_at dt_Wa_walkApart 87 rfl) rfl (fun _ => rfl) (fun _ _ => rfl) rfl nl_Wa_walkApart (by decide) trivial rfl ?_
  refine y_ldk (ok := q_isA) (n := 0) (ck_at dt_Wa_walkApart 88 rfl) rfl rfl (fun _ => rfl) rfl rfl ?_
  refine y_ldk (ok := q_isI) (n := 8) (ck_at dt_Wa_walkApart 89 rfl) rfl rfl (fun _ => rfl) rfl rfl ?_
  refine y_ifz (t := 180) (ck_at dt_Wa_walkApart 90 rfl) rfl p1 ?_ ?_
  · intro q; have w := w.1 q
    refine y_ldk (ok := q_isI) (n := 3) (ck_at dt_Wa_walkApart 93 rfl) rfl rfl (fun _ => rfl) rfl rfl ?_
    exact y_wk (c_Wa_walkApart_181_ok (by omega) hS w) ⟨rfl, ⟨rfl, ⟨rfl, ⟨rfl, trivial⟩⟩⟩⟩
  · intro q; have w := w.2 q
    refine y_ldk (ok := q_isI) (n := 6) (ck_at dt_Wa_walkApart 91 rfl) rfl rfl (fun _ => rfl) rfl rfl ?_
    refine y_goto (t := 181) (ck_at dt_Wa_walkApart 92 rfl) rfl ?_
    exact y_wk (c_Wa_walkApart_181_ok (by omega) hS w) ⟨rfl, ⟨rfl, ⟨rfl, ⟨rfl, trivial⟩⟩⟩⟩
def c_Wa_walkApart_166 (h1 : qH) (d : Nat) (x2 : Int) (x3 : Int) (x4 : Int) (x6 : Int) (B : qB) (Q : qO → qB → Prop) : Prop := c_Wa_walkApart_167 h1 d x2 x3 x4 x6 0 B Q
theorem c_Wa_walkApart_166_ok {h1 : qH} {d : Nat} {x2 : Int} {x3 : Int} {x4 : Int} {x6 : Int} {B : qB} {Q : qO → qB → Prop} (hd : 2 ≤ d) (hS : SH B) (w : c_Wa_walkApart_166 h1 d x2 x3 x4 x6 B Q) : qY h1 (d + 1) n_Wa_walkApart 166 [some (.ref 102), none, some (iv x2), some (iv x3), some (iv x4), none, some (iv x6), none, none] [] B Q := by
  unfold c_Wa_walkApart_166 at w
  refine y_op (ck_at dt_Wa_walkApart 86 rfl) rfl (o_const _) ?_
  exact y_wk (c_Wa_walkApart_167_ok (by omega) hS w) ⟨rfl, ⟨rfl, ⟨rfl, ⟨rfl, ⟨rfl, trivial⟩⟩⟩⟩⟩
def c_Wa_walkApart_132 (h1 : qH) (d : Nat) (x2 : Int) (x3 : Int) (x4 : Int) (x6 : Int) (x7 : Int) (s0 : Int) (s1 : Int) (B : qB) (Q : qO → qB → Prop) : Prop := R32 s0 ∧ R32 s1 ∧ (s0 = s1 → ob 5 ((B 102 3).toNat) ∧ 0 ≤ x2 ∧ x2 < 608 ∧ R32 x7 ∧ (¬ x7 = 14 → c_Wa_walkApart_166 h1 d x2 x3 x4 x6 (u2 B 102 6 (B (((B 102 3).toNat) + 3) x2)) Q) ∧ (x7 = 14 → R32 x6 ∧ R32 x3 ∧ (x6 ≤ x3 → c_Wa_walkApart_166 h1 d x2 x3 x4 x6 (u2 B 102 6 (B (((B 102 3).toNat) + 3) x2)) Q) ∧ (x6 > x3 → c_Wa_walkApart_167 h1 d x2 x3 x4 x6 1 (u2 B 102 6 (B (((B 102 3).toNat) + 3) x2)) Q))) ∧ (¬ s0 = s1 → Q (.inl (some (iv 0))) B)
theorem c_Wa_walkApart_132_ok {h1 : qH} {d : Nat} {x2 : Int} {x3 : Int} {x4 : Int} {x6 : Int} {x7 : Int} {s0 : Int} {s1 : Int} {B : qB} {Q : qO → qB → Prop} (hd : 2 ≤ d) (hS : SH B) (w : c_Wa_walkApart_132 h1 d x2 x3 x4 x6 x7 s0 s1 B Q) : qY h1 (d + 1) n_Wa_walkApart 132 [some (.ref 102), none, some (iv x2), some (iv x3), some (iv x4), none, some (iv x6), some (iv x7), none] [iv s1, iv s0] B Q := by
  unfold c_Wa_walkApart_132 at w
  obtain ⟨p1, p2, w⟩ := w
  refine y_icmp (t := 137) (ck_at dt_Wa_walkApart 69 rfl) rfl p1 p2 ?_ ?_
  · intro q; have w := w.1 q
    obtain ⟨p3, p4, p5, p7, w⟩ := w
    refine y_ldk (ok := q_isA) (n := 0) (ck_at dt_Wa_walkApart 72 rfl) rfl rfl (fun _ => rfl) rfl rfl ?_
    refine y_ldk (ok := q_isA) (n := 0) (ck_at dt_Wa_walkApart 73 rfl) rfl rfl (fun _ => rfl) rfl rfl ?_
    refine y_getD (K := 9) (j := 3) (a := 102) (ck_at dt_Wa_walkApart 74 rfl) own_Wa_walkApart (cf_at 44 rfl) rfl rfl rfl ⟨(SH.o hS ⟨by decide, by decide, by decide⟩), ?_⟩
    refine y_ldk (ok := q_isI) (n := 2) (ck_at dt_Wa_walkApart 75 rfl) rfl rfl (fun _ => rfl) rfl rfl ?_
    refine y_virtP (k' := n_Pr_nextOf) (n := 0) (as := [iv x2]) (r := [.ref 102]) (ck_at dt_Wa_walkApart 76 rfl) own_Wa_walkApart (cm_at 108 rfl) vk_Pr_nextOf rfl nl_Pr_nextOf rfl rfl rfl rfl (SH.o hS p3) (Y_Pr_nextOf (by omega) hS p3 p4 p5 ⟨rfl, rfl⟩) ?_
    refine y_putI (K := 9) (j := 6) (a := 102) (ck_at dt_Wa_walkApart 77 rfl) own_Wa_walkApart (cf_at 47 rfl) rfl rfl rfl rfl rfl ⟨⟨SH.o hS ⟨by decide, by decide, by decide⟩, by decide⟩, ?_⟩
    have hS6 := SH_u2 (b := 102) (x := 6) (z := B (((B 102 3).toNat) + 3) x2) hS (by decide)
    refine y_ldk (ok := q_isI) (n := 7) (ck_at dt_Wa_walkApart 78 rfl) rfl rfl (fun _ => rfl) rfl rfl ?_
    refine y_op (ck_at dt_Wa_walkApart 79 rfl) rfl (o_bipush _ (by decide)) ?_
    refine y_icmp (t := 166) (ck_at dt_Wa_walkApart 80 rfl) rfl p7 ⟨by decide, by decide⟩ ?_ ?_
    · intro q; have w := w.1 q
      exact y_wk (c_Wa_walkApart_166_ok (by omega) hS6 w) ⟨rfl, ⟨rfl, ⟨rfl, ⟨rfl, ⟨rfl, trivial⟩⟩⟩⟩⟩
    · intro q; have w := w.2 q
      obtain ⟨p8, p9, w⟩ := w
      refine y_ldk (ok := q_isI) (n := 6) (ck_at dt_Wa_walkApart 81 rfl) rfl rfl (fun _ => rfl) rfl rfl ?_
      refine y_ldk (ok := q_isI) (n := 3) (ck_at dt_Wa_walkApart 82 rfl) rfl rfl (fun _ => rfl) rfl rfl ?_
      refine y_icmp (t := 166) (ck_at dt_Wa_walkApart 83 rfl) rfl p8 p9 ?_ ?_
      · intro q; have w := w.1 q
        exact y_wk (c_Wa_walkApart_166_ok (by omega) hS6 w) ⟨rfl, ⟨rfl, ⟨rfl, ⟨rfl, ⟨rfl, trivial⟩⟩⟩⟩⟩
      · intro q; have w := w.2 q
        refine y_op (ck_at dt_Wa_walkApart 84 rfl) rfl (o_const _) ?_
        refine y_goto (t := 167) (ck_at dt_Wa_walkApart 85 rfl) rfl ?_
        exact y_wk (c_Wa_walkApart_167_ok (by omega) hS6 w) ⟨rfl, ⟨rfl, ⟨rfl, ⟨rfl, ⟨rfl, trivial⟩⟩⟩⟩⟩
  · intro q; have w := w.2 q
    refine y_op (ck_at dt_Wa_walkApart 70 rfl) rfl (o_const _) ?_
    exact y_retZ (ck_at dt_Wa_walkApart 71 rfl) rt_Wa_walkApart (by decide) w
def c_Wa_walkApart_120 (h1 : qH) (d : Nat) (x2 : Int) (x3 : Int) (x4 : Int) (x6 : Int) (x7 : Int) (s0 : Int) (B : qB) (Q : qO → qB → Prop) : Prop := R32 x7 ∧ (¬ x7 = 8 → c_Wa_walkApart_132 h1 d x2 x3 x4 x6 x7 s0 0 B Q) ∧ (x7 = 8 → c_Wa_walkApart_132 h1 d x2 x3 x4 x6 x7 s0 1 B Q)
theorem c_Wa_walkApart_120_ok {h1 : qH} {d : Nat} {x2 : Int} {x3 : Int} {x4 : Int} {x6 : Int} {x7 : Int} {s0 : Int} {B : qB} {Q : qO → qB → Prop} (hd : 2 ≤ d) (hS : SH B) (w : c_Wa_walkApart_120 h1 d x2 x3 x4 x6 x7 s0 B Q) : qY h1 (d + 1) n_Wa_walkApart 120 [some (.ref 102), none, some (iv x2), some (iv x3), some (iv x4), none, some (iv x6), some (iv x7), none] [iv s0] B Q := by
  unfold c_Wa_walkApart_120 at w
  obtain ⟨p1, w⟩ := w
  refine y_ldk (ok := q_isI) (n := 7) (ck_at dt_Wa_walkApart 63 rfl) rfl rfl (fun _ => rfl) rfl rfl ?_
  refine y_op (ck_at dt_Wa_walkApart 64 rfl) rfl (o_bipush _ (by decide)) ?_
  refine y_icmp (t := 131) (ck_at dt_Wa_walkApart 65 rfl) rfl p1 ⟨by decide, by decide⟩ ?_ ?_
  · intro q; have w := w.1 q
    refine y_op (ck_at dt_Wa_walkApart 68 rfl) rfl (o_const _) ?_
    exact y_wk (c_Wa_walkApart_132_ok (by omega) hS w) ⟨rfl, ⟨rfl, ⟨rfl, ⟨rfl, ⟨rfl, ⟨rfl, trivial⟩⟩⟩⟩⟩⟩
  · intro q; have w := w.2 q
    refine y_op (ck_at dt_Wa_walkApart 66 rfl) rfl (o_const _) ?_
    refine y_goto (t := 132) (ck_at dt_Wa_walkApart 67 rfl) rfl ?_
    exact y_wk (c_Wa_walkApart_132_ok (by omega) hS w) ⟨rfl, ⟨rfl, ⟨rfl, ⟨rfl, ⟨rfl, ⟨rfl, trivial⟩⟩⟩⟩⟩⟩
def c_Wa_walkApart_99 (h1 : qH) (d : Nat) (x2 : Int) (x3 : Int) (x4 : Int) (x6 : Int) (B : qB) (Q : qO → qB → Prop) : Prop := ob 5 ((B 102 3).toNat) ∧ 0 ≤ x2 ∧ x2 < 608 ∧ R32 x6 ∧ (¬ x6 = (-1) → c_Wa_walkApart_120 h1 d x2 x3 x4 x6 (B (((B 102 3).toNat) + 1) x2) 0 B Q) ∧ (x6 = (-1) → c_Wa_walkApart_120 h1 d x2 x3 x4 x6 (B (((B 102 3).toNat) + 1) x2) 1 B Q)
theorem c_Wa_walkApart_99_ok {h1 : qH} {d : Nat} {x2 : Int} {x3 : Int} {x4 : Int} {x6 : Int} {B : qB} {Q : qO → qB → Prop} (hd : 2 ≤ d) (hS : SH B) (w : c_Wa_walkApart_99 h1 d x2 x3 x4 x6 B Q) : qY h1 (d + 1) n_Wa_walkApart 99 [some (.ref 102), none, some (iv x2), some (iv x3), some (iv x4), none, some (iv x6), none, none] [] B Q := by
  unfold c_Wa_walkApart_99 at w
  obtain ⟨p1, p2, p3, p4, w⟩ := w
  refine y_ldk (ok := q_isA) (n := 0) (ck_at dt_Wa_walkApart 52 rfl) rfl rfl (fun _ => rfl) rfl rfl ?_
  refine y_getD (K := 9) (j := 3) (a := 102) (ck_at dt_Wa_walkApart 53 rfl) own_Wa_walkApart (cf_at 44 rfl) rfl rfl rfl ⟨(SH.o hS ⟨by decide, by decide, by decide⟩), ?_⟩
  refine y_ldk (ok := q_isI) (n := 2) (ck_at dt_Wa_walkApart 54 rfl) rfl rfl (fun _ => rfl) rfl rfl ?_
  refine y_virtP (k' := n_Pr_kindOf) (n := 0) (as := [iv x2]) (r := []) (ck_at dt_Wa_walkApart 55 rfl) own_Wa_walkApart (cm_at 98 rfl) vk_Pr_kindOf rfl nl_Pr_kindOf rfl rfl rfl rfl (SH.o hS p1) (Y_Pr_kindOf (by omega) hS p1 p2 p3 ⟨rfl, rfl⟩) ?_
  refine y_st1 (ok := q_isI) (n := 7) (L' := [some (.ref 102), none, some (iv x2), some (iv x3), some (iv x4), none, some (iv x6), some (iv (B (((B 102 3).toNat) + 1) x2)), none]) (ck_at dt_Wa_walkApart 56 rfl) rfl (fun _ => rfl) (fun _ _ => rfl) rfl nl_Wa_walkApart (by decide) rfl rfl ?_
  refine y_ldk (ok := q_isI) (n := 6) (ck_at dt_Wa_walkApart 57 rfl) rfl rfl (fun _ => rfl) rfl rfl ?_
  refine y_op (ck_at dt_Wa_walkApart 58 rfl) rfl (o_const _) ?_
  refine y_icmp (t := 119) (ck_at dt_Wa_walkApart 59 rfl) rfl p4 ⟨by decide, by decide⟩ ?_ ?_
  · intro q; have w := w.1 q
    refine y_op (ck_at dt_Wa_walkApart 62 rfl) rfl (o_const _) ?_
    exact y_wk (c_Wa_walkApart_120_ok (by omega) hS w) ⟨rfl, ⟨rfl, ⟨rfl, ⟨rfl, ⟨rfl, ⟨rfl, trivial⟩⟩⟩⟩⟩⟩
  · intro q; have w := w.2 q
    refine y_op (ck_at dt_Wa_walkApart 60 rfl) rfl (o_const _) ?_
    refine y_goto (t := 120) (ck_at dt_Wa_walkApart 61 rfl) rfl ?_
    exact y_wk (c_Wa_walkApart_120_ok (by omega) hS w) ⟨rfl, ⟨rfl, ⟨rfl, ⟨rfl, ⟨rfl, ⟨rfl, trivial⟩⟩⟩⟩⟩⟩
def c_Wa_walkApart_88 (h1 : qH) (d : Nat) (x2 : Int) (x3 : Int) (x4 : Int) (x5 : Int) (s0 : Int) (B : qB) (Q : qO → qB → Prop) : Prop := qY h1 d n_Pi_dropWays 0 [some (.ref 103), some (iv x5), none, none, none, none, none] [] B (fun o B' => o = .inl none ∧ SH B' ∧ c_Wa_walkApart_99 h1 d x2 x3 x4 s0 B' Q)
theorem c_Wa_walkApart_88_ok {h1 : qH} {d : Nat} {x2 : Int} {x3 : Int} {x4 : Int} {x5 : Int} {s0 : Int} {B : qB} {Q : qO → qB → Prop} (hd : 2 ≤ d) (hS : SH B) (w : c_Wa_walkApart_88 h1 d x2 x3 x4 x5 s0 B Q) : qY h1 (d + 1) n_Wa_walkApart 88 [some (.ref 102), none, some (iv x2), some (iv x3), some (iv x4), some (iv x5), none, none, none] [iv s0] B Q := by
  unfold c_Wa_walkApart_88 at w
  refine y_st1 (ok := q_isI) (n := 6) (L' := [some (.ref 102), none, some (iv x2), some (iv x3), some (iv x4), some (iv x5), some (iv s0), none, none]) (ck_at dt_Wa_walkApart 47 rfl) rfl (fun _ => rfl) (fun _ _ => rfl) rfl nl_Wa_walkApart (by decide) rfl rfl ?_
  refine y_ldk (ok := q_isA) (n := 0) (ck_at dt_Wa_walkApart 48 rfl) rfl rfl (fun _ => rfl) rfl rfl ?_
  refine y_getF (r := 103) (K := 9) (j := 0) (a := 102) (ck_at dt_Wa_walkApart 49 rfl) own_Wa_walkApart (cf_at 41 rfl) rfl rfl ⟨(SH.o hS ⟨by decide, by decide, by decide⟩), ?_⟩
  refine y_ldk (ok := q_isI) (n := 5) (ck_at dt_Wa_walkApart 50 rfl) rfl rfl (fun _ => rfl) rfl rfl ?_
  refine y_virt (k' := n_Pi_dropWays) (n := 5) (as := [iv x5]) (r := []) (ck_at dt_Wa_walkApart 51 rfl) own_Wa_walkApart (cm_at 119 rfl) vk_Pi_dropWays rfl nl_Pi_dropWays rfl rfl rfl rfl ⟨(SH.o hS ⟨by decide, by decide, by decide⟩), ?_⟩
  exact w.mono (Nat.le_refl _) (fun o B' ⟨ho, hS', w⟩ => Or.inl ⟨none, ho, y_wk (c_Wa_walkApart_99_ok (by omega) hS' w) ⟨rfl, ⟨rfl, ⟨rfl, ⟨rfl, ⟨rfl, trivial⟩⟩⟩⟩⟩⟩)
def c_Wa_walkApart_63 (h1 : qH) (d : Nat) (x1 : Int) (x2 : Int) (x3 : Int) (x4 : Int) (B : qB) (Q : qO → qB → Prop) : Prop := ob 5 ((B 102 3).toNat) ∧ 0 ≤ x2 ∧ x2 < 608 ∧ qY h1 d n_Wa_walk 0 [some (.ref 102), some (iv (B (((B 102 3).toNat) + 4) x2)), some (iv x3), some (iv (x1 + 1)), none, none, none] [] B (fun o B' => ∃ v : Int, o = .inl (some (iv v)) ∧ SH B' ∧ c_Wa_walkApart_88 h1 d x2 x3 x4 (B 103 1) v B' Q)
theorem c_Wa_walkApart_63_ok {h1 : qH} {d : Nat} {x1 : Int} {x2 : Int} {x3 : Int} {x4 : Int} {B : qB} {Q : qO → qB → Prop} (hd : 2 ≤ d) (hS : SH B) (w : c_Wa_walkApart_63 h1 d x1 x2 x3 x4 B Q) : qY h1 (d + 1) n_Wa_walkApart 63 [some (.ref 102), some (iv x1), some (iv x2), some (iv x3), some (iv x4), none, none, none, none] [] B Q := by
  unfold c_Wa_walkApart_63 at w
  obtain ⟨p1, p2, p3, w⟩ := w
  refine y_ldk (ok := q_isA) (n := 0) (ck_at dt_Wa_walkApart 33 rfl) rfl rfl (fun _ => rfl) rfl rfl ?_
  refine y_getF (r := 103) (K := 9) (j := 0) (a := 102) (ck_at dt_Wa_walkApart 34 rfl) own_Wa_walkApart (cf_at 41 rfl) rfl rfl ⟨(SH.o hS ⟨by decide, by decide, by decide⟩), ?_⟩
  refine y_virtP (k' := n_Pi_size) (n := 0) (as := []) (r := []) (ck_at dt_Wa_walkApart 35 rfl) own_Wa_walkApart (cm_at 94 rfl) vk_Pi_size rfl nl_Pi_size rfl rfl rfl rfl (SH.o hS ⟨by decide, by decide, by decide⟩) (Y_Pi_size (by omega) hS ⟨rfl, rfl⟩) ?_
  refine y_st1 (ok := q_isI) (n := 5) (L' := [some (.ref 102), some (iv x1), some (iv x2), some (iv x3), some (iv x4), some (iv (B 103 1)), none, none, none]) (ck_at dt_Wa_walkApart 36 rfl) rfl (fun _ => rfl) (fun _ _ => rfl) rfl nl_Wa_walkApart (by decide) rfl rfl ?_
  refine y_ldk (ok := q_isA) (n := 0) (ck_at dt_Wa_walkApart 37 rfl) rfl rfl (fun _ => rfl) rfl rfl ?_
  refine y_ldk (ok := q_isA) (n := 0) (ck_at dt_Wa_walkApart 38 rfl) rfl rfl (fun _ => rfl) rfl rfl ?_
  refine y_getD (K := 9) (j := 3) (a := 102) (ck_at dt_Wa_walkApart 39 rfl) own_Wa_walkApart (cf_at 44 rfl) rfl rfl rfl ⟨(SH.o hS ⟨by decide, by decide, by decide⟩), ?_⟩
  refine y_ldk (ok := q_isI) (n := 2) (ck_at dt_Wa_walkApart 40 rfl) rfl rfl (fun _ => rfl) rfl rfl ?_
  refine y_virtP (k' := n_Pr_otherOf) (n := 0) (as := [iv x2]) (r := [.ref 102]) (ck_at dt_Wa_walkApart 41 rfl) own_Wa_walkApart (cm_at 118 rfl) vk_Pr_otherOf rfl nl_Pr_otherOf rfl rfl rfl rfl (SH.o hS p1) (Y_Pr_otherOf (by omega) hS p1 p2 p3 ⟨rfl, rfl⟩) ?_
  refine y_ldk (ok := q_isI) (n := 3) (ck_at dt_Wa_walkApart 42 rfl) rfl rfl (fun _ => rfl) rfl rfl ?_
  refine y_ldk (ok := q_isI) (n := 1) (ck_at dt_Wa_walkApart 43 rfl) rfl rfl (fun _ => rfl) rfl rfl ?_
  refine y_op (ck_at dt_Wa_walkApart 44 rfl) rfl (o_const _) ?_
  refine y_op (ck_at dt_Wa_walkApart 45 rfl) rfl o_iadd ?_
  refine y_virt (k' := n_Wa_walk) (n := 3) (as := [iv (B (((B 102 3).toNat) + 4) x2), iv x3, iv (x1 + 1)]) (r := []) (ck_at dt_Wa_walkApart 46 rfl) own_Wa_walkApart (cm_at 91 rfl) vk_Wa_walk rfl nl_Wa_walk rfl rfl rfl rfl ⟨(SH.o hS ⟨by decide, by decide, by decide⟩), ?_⟩
  exact w.mono (Nat.le_refl _) (fun o B' ⟨v, ho, hS', w⟩ => Or.inl ⟨some (iv v), ho, y_wk (c_Wa_walkApart_88_ok (by omega) hS' w) ⟨rfl, ⟨rfl, ⟨rfl, ⟨rfl, ⟨rfl, trivial⟩⟩⟩⟩⟩⟩)
def c_Wa_walkApart_27 (h1 : qH) (d : Nat) (x1 : Int) (s0 : Int) (B : qB) (Q : qO → qB → Prop) : Prop := R32 s0 ∧ (s0 = 0 → pkO 1 (B 102 6) (B 102 8) (B 102 7) ∧ qY h1 d n_Pi_push 0 [some (.ref 103), some (iv (pkV 1 (B 102 6) (B 102 8) (B 102 7)))] [] B (fun o B' => o = .inl none ∧ SH B' ∧ c_Wa_walkApart_63 h1 d x1 (B 102 6) (B 102 7) (B 102 8) B' Q)) ∧ (¬ s0 = 0 → Q (.inl (some (iv 0))) B)
theorem c_Wa_walkApart_27_ok {h1 : qH} {d : Nat} {x1 : Int} {s0 : Int} {B : qB} {Q : qO → qB → Prop} (hd : 2 ≤ d) (hS : SH B) (w : c_Wa_walkApart_27 h1 d x1 s0 B Q) : qY h1 (d + 1) n_Wa_walkApart 27 [some (.ref 102), some (iv x1), none, none, none, none, none, none, none] [iv s0] B Q := by
  unfold c_Wa_walkApart_27 at w
  obtain ⟨p1, w⟩ := w
  refine y_ifz (t := 32) (ck_at dt_Wa_walkApart 13 rfl) rfl p1 ?_ ?_
  · intro q; have w := w.1 q
    obtain ⟨p2, w⟩ := w
    refine y_ldk (ok := q_isA) (n := 0) (ck_at dt_Wa_walkApart 16 rfl) rfl rfl (fun _ => rfl) rfl rfl ?_
    refine y_getI (K := 9) (j := 6) (a := 102) (ck_at dt_Wa_walkApart 17 rfl) own_Wa_walkApart (cf_at 47 rfl) rfl rfl rfl ⟨(SH.o hS ⟨by decide, by decide, by decide⟩), ?_⟩
    refine y_st1 (ok := q_isI) (n := 2) (L' := [some (.ref 102), some (iv x1), some (iv (B 102 6)), none, none, none, none, none, none]) (ck_at dt_Wa_walkApart 18 rfl) rfl (fun _ => rfl) (fun _ _ => rfl) rfl nl_Wa_walkApart (by decide) rfl rfl ?_
    refine y_ldk (ok := q_isA) (n := 0) (ck_at dt_Wa_walkApart 19 rfl) rfl rfl (fun _ => rfl) rfl rfl ?_
    refine y_getI (K := 9) (j := 7) (a := 102) (ck_at dt_Wa_walkApart 20 rfl) own_Wa_walkApart (cf_at 48 rfl) rfl rfl rfl ⟨(SH.o hS ⟨by decide, by decide, by decide⟩), ?_⟩
    refine y_st1 (ok := q_isI) (n := 3) (L' := [some (.ref 102), some (iv x1), some (iv (B 102 6)), some (iv (B 102 7)), none, none, none, none, none]) (ck_at dt_Wa_walkApart 21 rfl) rfl (fun _ => rfl) (fun _ _ => rfl) rfl nl_Wa_walkApart (by decide) rfl rfl ?_
    refine y_ldk (ok := q_isA) (n := 0) (ck_at dt_Wa_walkApart 22 rfl) rfl rfl (fun _ => rfl) rfl rfl ?_
    refine y_getI (K := 9) (j := 8) (a := 102) (ck_at dt_Wa_walkApart 23 rfl) own_Wa_walkApart (cf_at 49 rfl) rfl rfl rfl ⟨(SH.o hS ⟨by decide, by decide, by decide⟩), ?_⟩
    refine y_st1 (ok := q_isI) (n := 4) (L' := [some (.ref 102), some (iv x1), some (iv (B 102 6)), some (iv (B 102 7)), some (iv (B 102 8)), none, none, none, none]) (ck_at dt_Wa_walkApart 24 rfl) rfl (fun _ => rfl) (fun _ _ => rfl) rfl nl_Wa_walkApart (by decide) rfl rfl ?_
    refine y_ldk (ok := q_isA) (n := 0) (ck_at dt_Wa_walkApart 25 rfl) rfl rfl (fun _ => rfl) rfl rfl ?_
    refine y_getF (r := 103) (K := 9) (j := 0) (a := 102) (ck_at dt_Wa_walkApart 26 rfl) own_Wa_walkApart (cf_at 41 rfl) rfl rfl ⟨(SH.o hS ⟨by decide, by decide, by decide⟩), ?_⟩
    refine y_op (ck_at dt_Wa_walkApart 27 rfl) rfl (o_const _) ?_
    refine y_ldk (ok := q_isI) (n := 2) (ck_at dt_Wa_walkApart 28 rfl) rfl rfl (fun _ => rfl) rfl rfl ?_
    refine y_ldk (ok := q_isI) (n := 4) (ck_at dt_Wa_walkApart 29 rfl) rfl rfl (fun _ => rfl) rfl rfl ?_
    refine y_ldk (ok := q_isI) (n := 3) (ck_at dt_Wa_walkApart 30 rfl) rfl rfl (fun _ => rfl) rfl rfl ?_
    refine y_statP (k' := n_Pi_pack) (n := 0) (as := [iv 1, iv (B 102 6), iv (B 102 8), iv (B 102 7)]) (r := [.ref 103]) (ck_at dt_Wa_walkApart 31 rfl) own_Wa_walkApart (cm_at 112 rfl) (cs_at 22 rfl) vk_Pi_pack rfl nl_Pi_pack rfl rfl rfl rfl  (Y_Pi_pack (by omega) hS p2 ⟨rfl, rfl⟩) ?_
    refine y_virt (k' := n_Pi_push) (n := 0) (as := [iv (pkV 1 (B 102 6) (B 102 8) (B 102 7))]) (r := []) (ck_at dt_Wa_walkApart 32 rfl) own_Wa_walkApart (cm_at 113 rfl) vk_Pi_push rfl nl_Pi_push rfl rfl rfl rfl ⟨(SH.o hS ⟨by decide, by decide, by decide⟩), ?_⟩
    exact w.mono (Nat.le_refl _) (fun o B' ⟨ho, hS', w⟩ => Or.inl ⟨none, ho, y_wk (c_Wa_walkApart_63_ok (by omega) hS' w) ⟨rfl, ⟨rfl, ⟨rfl, ⟨rfl, ⟨rfl, trivial⟩⟩⟩⟩⟩⟩)
  · intro q; have w := w.2 q
    refine y_op (ck_at dt_Wa_walkApart 14 rfl) rfl (o_const _) ?_
    exact y_retZ (ck_at dt_Wa_walkApart 15 rfl) rt_Wa_walkApart (by decide) w
def c_Wa_walkApart_0 (h1 : qH) (d : Nat) (x1 : Int) (B : qB) (Q : qO → qB → Prop) : Prop := R32 x1 ∧ (x1 > 0 → Q (.inl (some (iv 0))) B) ∧ (x1 ≤ 0 → ob 5 (B 102 3).toNat ∧ ob 1 (B 102 4).toNat ∧ 0 ≤ (B 102 6) ∧ (B 102 6) < 608 ∧ qY h1 d n_Fl_has 0 [some (.ref 105), some (iv (keV B (B 102 6) (B 102 7))), some (iv (B 102 8))] [] B (fun o B' => ∃ v : Int, o = .inl (some (iv v)) ∧ SH B' ∧ c_Wa_walkApart_27 h1 d x1 v B' Q))
theorem c_Wa_walkApart_0_ok {h1 : qH} {d : Nat} {x1 : Int} {B : qB} {Q : qO → qB → Prop} (hd : 2 ≤ d) (hS : SH B) (w : c_Wa_walkApart_0 h1 d x1 B Q) : qY h1 (d + 1) n_Wa_walkApart 0 [some (.ref 102), some (iv x1), none, none, none, none, none, none, none] [] B Q := by
  unfold c_Wa_walkApart_0 at w
  obtain ⟨p1, w⟩ := w
  refine y_ldk (ok := q_isI) (n := 1) (ck_at dt_Wa_walkApart 0 rfl) rfl rfl (fun _ => rfl) rfl rfl ?_
  refine y_ifz (t := 30) (ck_at dt_Wa_walkApart 1 rfl) rfl p1 ?_ ?_
  · intro q; have w := w.1 q
    refine y_op (ck_at dt_Wa_walkApart 14 rfl) rfl (o_const _) ?_
    exact y_retZ (ck_at dt_Wa_walkApart 15 rfl) rt_Wa_walkApart (by decide) w
  · intro q; have w := w.2 q
    obtain ⟨p2, p3, p4, p5, w⟩ := w
    refine y_ldk (ok := q_isA) (n := 0) (ck_at dt_Wa_walkApart 2 rfl) rfl rfl (fun _ => rfl) rfl rfl ?_
    refine y_getF (r := 105) (K := 9) (j := 1) (a := 102) (ck_at dt_Wa_walkApart 3 rfl) own_Wa_walkApart (cf_at 42 rfl) rfl rfl ⟨(SH.o hS ⟨by decide, by decide, by decide⟩), ?_⟩
    refine y_ldk (ok := q_isA) (n := 0) (ck_at dt_Wa_walkApart 4 rfl) rfl rfl (fun _ => rfl) rfl rfl ?_
    refine y_ldk (ok := q_isA) (n := 0) (ck_at dt_Wa_walkApart 5 rfl) rfl rfl (fun _ => rfl) rfl rfl ?_
    refine y_getI (K := 9) (j := 6) (a := 102) (ck_at dt_Wa_walkApart 6 rfl) own_Wa_walkApart (cf_at 47 rfl) rfl rfl rfl ⟨(SH.o hS ⟨by decide, by decide, by decide⟩), ?_⟩
    refine y_ldk (ok := q_isA) (n := 0) (ck_at dt_Wa_walkApart 7 rfl) rfl rfl (fun _ => rfl) rfl rfl ?_
    refine y_getI (K := 9) (j := 7) (a := 102) (ck_at dt_Wa_walkApart 8 rfl) own_Wa_walkApart (cf_at 48 rfl) rfl rfl rfl ⟨(SH.o hS ⟨by decide, by decide, by decide⟩), ?_⟩
    refine y_virtP (k' := n_Wa_key) (n := 0) (as := [iv (B 102 6), iv (B 102 7)]) (r := [.ref 105]) (ck_at dt_Wa_walkApart 9 rfl) own_Wa_walkApart (cm_at 110 rfl) vk_Wa_key rfl nl_Wa_key rfl rfl rfl rfl (SH.o hS ⟨by decide, by decide, by decide⟩) (Y_Wa_key (by omega) hS p2 p3 p4 p5 ⟨rfl, rfl⟩) ?_
    refine y_ldk (ok := q_isA) (n := 0) (ck_at dt_Wa_walkApart 10 rfl) rfl rfl (fun _ => rfl) rfl rfl ?_
    refine y_getI (K := 9) (j := 8) (a := 102) (ck_at dt_Wa_walkApart 11 rfl) own_Wa_walkApart (cf_at 49 rfl) rfl rfl rfl ⟨(SH.o hS ⟨by decide, by decide, by decide⟩), ?_⟩
    refine y_virt (k' := n_Fl_has) (n := 0) (as := [iv (keV B (B 102 6) (B 102 7)), iv (B 102 8)]) (r := []) (ck_at dt_Wa_walkApart 12 rfl) own_Wa_walkApart (cm_at 111 rfl) vk_Fl_has rfl nl_Fl_has rfl rfl rfl rfl ⟨(SH.o hS ⟨by decide, by decide, by decide⟩), ?_⟩
    exact w.mono (Nat.le_refl _) (fun o B' ⟨v, ho, hS', w⟩ => Or.inl ⟨some (iv v), ho, y_wk (c_Wa_walkApart_27_ok (by omega) hS' w) ⟨rfl, ⟨rfl, trivial⟩⟩⟩)
/-! PatternTrier$Walker.advance(I)Z -/
def t_Wa_advance : List (Nat × Instr × Nat) := [(0, .aload_n 0, 1), (1, .getfield 29, 3), (4, .aload_n 0, 1), (5, .getfield 92, 3), (8, .invokevirtual 110, 3), (11, .istore_n 2, 1), (12, .aload_n 0, 1), (13, .getfield 29, 3), (16, .aload_n 0, 1), (17, .getfield 92, 3), (20, .invokevirtual 113, 3), (23, .tableswitch 254 1 17 #[81, 109, 161, 181, 208, 228, 248, 248, 254, 254, 254, 254, 254, 248, 144, 149, 155], 81), (104, .aload_n 0, 1), (105, .getfield 33, 3), (108, .aload_n 0, 1), (109, .getfield 96, 3), (112, .invokevirtual 116, 3), (115, .iload_n 2, 1), (116, .if_icmp .ne 14, 3), (119, .aload_n 0, 1), (120, .invokevirtual 119, 3), (123, .ifCond .eq 7, 3), (126, .iconst 1, 1), (127, .goto 4, 3), (130, .iconst 0, 1), (131, .ireturn, 1), (132, .aload_n 0, 1), (133, .getfield 29, 3), (136, .iload_n 2, 1), (137, .aload_n 0, 1), (138, .getfield 33, 3), (141, .aload_n 0, 1), (142, .getfield 96, 3), (145, .invokevirtual 116, 3), (148, .invokevirtual 123, 3), (151, .ifCond .eq 14, 3), (154, .aload_n 0, 1), (155, .invokevirtual 119, 3), (158, .ifCond .eq 7, 3), (161, .iconst 1, 1), (162, .goto 4, 3), (165, .iconst 0, 1), (166, .ireturn, 1), (167, .aload_n 0, 1), (168, .invokevirtual 127, 3), (171, .ireturn, 1), (172, .aload_n 0, 1), (173, .iload_n 2, 1), (174, .invokevirtual 130, 3), (177, .ireturn, 1), (178, .aload_n 0, 1), (179, .iload_n 2, 1), (180, .invokevirtual 133, 3), (183, .ireturn, 1), (184, .aload_n 0, 1), (185, .getfield 96, 3), (188, .ifCond .ne 14, 3), (191, .aload_n 0, 1), (192, .invokevirtual 136, 3), (195, .ifCond .eq 7, 3), (198, .iconst 1, 1), (199, .goto 4, 3), (202, .iconst 0, 1), (203, .ireturn, 1), (204, .aload_n 0, 1), (205, .getfield 96, 3), (208, .aload_n 0, 1), (209, .getfield 33, 3), (212, .invokevirtual 47, 3), (215, .if_icmp .ne 14, 3), (218, .aload_n 0, 1), (219, .invokevirtual 136, 3), (222, .ifCond .eq 7, 3), (225, .iconst 1, 1), (226, .goto 4, 3), (229, .iconst 0, 1), (230, .ireturn, 1), (231, .aload_n 0, 1), (232, .invokevirtual 139, 3), (235, .ifCond .eq 14, 3), (238, .aload_n 0, 1), (239, .invokevirtual 136, 3), (242, .ifCond .eq 7, 3), (245, .iconst 1, 1), (246, .goto 4, 3), (249, .iconst 0, 1), (250, .ireturn, 1), (251, .aload_n 0, 1), (252, .invokevirtual 139, 3), (255, .ifCond .ne 14, 3), (258, .aload_n 0, 1), (259, .invokevirtual 136, 3), (262, .ifCond .eq 7, 3), (265, .iconst 1, 1), (266, .goto 4, 3), (269, .iconst 0, 1), (270, .ireturn, 1), (271, .aload_n 0, 1), (272, .iload_n 1, 1), (273, .invokevirtual 142, 3), (276, .ireturn, 1), (277, .iconst 0, 1), (278, .ireturn, 1)]
set_option maxRecDepth 100000 in
theorem dt_Wa_advance : q_ck n_Wa_advance t_Wa_advance = true := by decide +kernel
def c_Wa_advance_276 (h1 : qH) (d : Nat) (s0 : Int) (B : qB) (Q : qO → qB → Prop) : Prop := (s0 = 0 ∨ s0 = 1) ∧ Q (.inl (some (iv s0))) B
theorem c_Wa_advance_276_ok {h1 : qH} {d : Nat} {s0 : Int} {B : qB} {Q : qO → qB → Prop} (hd : 3 ≤ d) (hS : SH B) (w : c_Wa_advance_276 h1 d s0 B Q) : qY h1 (d + 1) n_Wa_advance 276 [none, none, none] [iv s0] B Q := by
  unfold c_Wa_advance_276 at w
  obtain ⟨p1, w⟩ := w
  exact y_retZ (ck_at dt_Wa_advance 100 rfl) rt_Wa_advance p1 w
def c_Wa_advance_271 (h1 : qH) (d : Nat) (x1 : Int) (B : qB) (Q : qO → qB → Prop) : Prop := qY h1 d n_Wa_walkApart 0 [some (.ref 102), some (iv x1), none, none, none, none, none, none, none] [] B (fun o B' => ∃ v : Int, o = .inl (some (iv v)) ∧ SH B' ∧ c_Wa_advance_276 h1 d v B' Q)
theorem c_Wa_advance_271_ok {h1 : qH} {d : Nat} {x1 : Int} {B : qB} {Q : qO → qB → Prop} (hd : 3 ≤ d) (hS : SH B) (w : c_Wa_advance_271 h1 d x1 B Q) : qY h1 (d + 1) n_Wa_advance 271 [some (.ref 102), some (iv x1), none] [] B Q := by
  unfold c_Wa_advance_271 at w
  refine y_ldk (ok := q_isA) (n := 0) (ck_at dt_Wa_advance 97 rfl) rfl rfl (fun _ => rfl) rfl rfl ?_
  refine y_ldk (ok := q_isI) (n := 1) (ck_at dt_Wa_advance 98 rfl) rfl rfl (fun _ => rfl) rfl rfl ?_
  refine y_virt (k' := n_Wa_walkApart) (n := 7) (as := [iv x1]) (r := []) (ck_at dt_Wa_advance 99 rfl) own_Wa_advance (cm_at 107 rfl) vk_Wa_walkApart rfl nl_Wa_walkApart rfl rfl rfl rfl ⟨(SH.o hS ⟨by decide, by decide, by decide⟩), ?_⟩
  exact w.mono (Nat.le_refl _) (fun o B' ⟨v, ho, hS', w⟩ => Or.inl ⟨some (iv v), ho, y_wk (c_Wa_advance_276_ok (by omega) hS' w) trivial⟩)
def c_Wa_advance_183 (h1 : qH) (d : Nat) (s0 : Int) (B : qB) (Q : qO → qB → Prop) : Prop := (s0 = 0 ∨ s0 = 1) ∧ Q (.inl (some (iv s0))) B
theorem c_Wa_advance_183_ok {h1 : qH} {d : Nat} {s0 : Int} {B : qB} {Q : qO → qB → Prop} (hd : 3 ≤ d) (hS : SH B) (w : c_Wa_advance_183 h1 d s0 B Q) : qY h1 (d + 1) n_Wa_advance 183 [none, none, none] [iv s0] B Q := by
  unfold c_Wa_advance_183 at w
  obtain ⟨p1, w⟩ := w
  exact y_retZ (ck_at dt_Wa_advance 53 rfl) rt_Wa_advance p1 w
def c_Wa_advance_177 (h1 : qH) (d : Nat) (s0 : Int) (B : qB) (Q : qO → qB → Prop) : Prop := (s0 = 0 ∨ s0 = 1) ∧ Q (.inl (some (iv s0))) B
theorem c_Wa_advance_177_ok {h1 : qH} {d : Nat} {s0 : Int} {B : qB} {Q : qO → qB → Prop} (hd : 3 ≤ d) (hS : SH B) (w : c_Wa_advance_177 h1 d s0 B Q) : qY h1 (d + 1) n_Wa_advance 177 [none, none, none] [iv s0] B Q := by
  unfold c_Wa_advance_177 at w
  obtain ⟨p1, w⟩ := w
  exact y_retZ (ck_at dt_Wa_advance 49 rfl) rt_Wa_advance p1 w
def c_Wa_advance_171 (h1 : qH) (d : Nat) (s0 : Int) (B : qB) (Q : qO → qB → Prop) : Prop := (s0 = 0 ∨ s0 = 1) ∧ Q (.inl (some (iv s0))) B
theorem c_Wa_advance_171_ok {h1 : qH} {d : Nat} {s0 : Int} {B : qB} {Q : qO → qB → Prop} (hd : 3 ≤ d) (hS : SH B) (w : c_Wa_advance_171 h1 d s0 B Q) : qY h1 (d + 1) n_Wa_advance 171 [none, none, none] [iv s0] B Q := by
  unfold c_Wa_advance_171 at w
  obtain ⟨p1, w⟩ := w
  exact y_retZ (ck_at dt_Wa_advance 45 rfl) rt_Wa_advance p1 w
def c_Wa_advance_158 (h1 : qH) (d : Nat) (s0 : Int) (B : qB) (Q : qO → qB → Prop) : Prop := R32 s0 ∧ (s0 = 0 → Q (.inl (some (iv 0))) B) ∧ (¬ s0 = 0 → Q (.inl (some (iv 1))) B)
theorem c_Wa_advance_158_ok {h1 : qH} {d : Nat} {s0 : Int} {B : qB} {Q : qO → qB → Prop} (hd : 3 ≤ d) (hS : SH B) (w : c_Wa_advance_158 h1 d s0 B Q) : qY h1 (d + 1) n_Wa_advance 158 [none, none, none] [iv s0] B Q := by
  unfold c_Wa_advance_158 at w
  obtain ⟨p1, w⟩ := w
  refine y_ifz (t := 165) (ck_at dt_Wa_advance 38 rfl) rfl p1 ?_ ?_
  · intro q; have w := w.1 q
    refine y_op (ck_at dt_Wa_advance 41 rfl) rfl (o_const _) ?_
    exact y_retZ (ck_at dt_Wa_advance 42 rfl) rt_Wa_advance (by decide) w
  · intro q; have w := w.2 q
    refine y_op (ck_at dt_Wa_advance 39 rfl) rfl (o_const _) ?_
    refine y_goto (t := 166) (ck_at dt_Wa_advance 40 rfl) rfl ?_
    exact y_retZ (ck_at dt_Wa_advance 42 rfl) rt_Wa_advance (by decide) w
def c_Wa_advance_123 (h1 : qH) (d : Nat) (s0 : Int) (B : qB) (Q : qO → qB → Prop) : Prop := R32 s0 ∧ (s0 = 0 → Q (.inl (some (iv 0))) B) ∧ (¬ s0 = 0 → Q (.inl (some (iv 1))) B)
theorem c_Wa_advance_123_ok {h1 : qH} {d : Nat} {s0 : Int} {B : qB} {Q : qO → qB → Prop} (hd : 3 ≤ d) (hS : SH B) (w : c_Wa_advance_123 h1 d s0 B Q) : qY h1 (d + 1) n_Wa_advance 123 [none, none, none] [iv s0] B Q := by
  unfold c_Wa_advance_123 at w
  obtain ⟨p1, w⟩ := w
  refine y_ifz (t := 130) (ck_at dt_Wa_advance 21 rfl) rfl p1 ?_ ?_
  · intro q; have w := w.1 q
    refine y_op (ck_at dt_Wa_advance 24 rfl) rfl (o_const _) ?_
    exact y_retZ (ck_at dt_Wa_advance 25 rfl) rt_Wa_advance (by decide) w
  · intro q; have w := w.2 q
    refine y_op (ck_at dt_Wa_advance 22 rfl) rfl (o_const _) ?_
    refine y_goto (t := 131) (ck_at dt_Wa_advance 23 rfl) rfl ?_
    exact y_retZ (ck_at dt_Wa_advance 25 rfl) rt_Wa_advance (by decide) w
def c_Wa_advance_0 (h1 : qH) (d : Nat) (x1 : Int) (B : qB) (Q : qO → qB → Prop) : Prop := ob 5 ((B 102 3).toNat) ∧ 0 ≤ (B 102 6) ∧ (B 102 6) < 608 ∧ R32 (B (((B 102 3).toNat) + 1) (B 102 6)) ∧ (B (((B 102 3).toNat) + 1) (B 102 6) = 1 → ob 1 ((B 102 4).toNat) ∧ bOK B ((B 102 4).toNat) ∧ R32 (B 102 7) ∧ R32 (byA B ((B 102 4).toNat) (B 102 7)) ∧ R32 (B (((B 102 3).toNat) + 2) (B 102 6)) ∧ (¬ byA B ((B 102 4).toNat) (B 102 7) = B (((B 102 3).toNat) + 2) (B 102 6) → Q (.inl (some (iv 0))) B) ∧ (byA B ((B 102 4).toNat) (B 102 7) = B (((B 102 3).toNat) + 2) (B 102 6) → qY h1 d n_Wa_take 0 [some (.ref 102)] [] B (fun o B' => ∃ v : Int, o = .inl (some (iv v)) ∧ SH B' ∧ c_Wa_advance_123 h1 d v B' Q))) ∧ (B (((B 102 3).toNat) + 1) (B 102 6) = 2 → ob 1 ((B 102 4).toNat) ∧ bOK B ((B 102 4).toNat) ∧ R32 (B 102 7) ∧ hoO (B (((B 102 3).toNat) + 2) (B 102 6)) (byA B ((B 102 4).toNat) (B 102 7)) ∧ (bi (hoC B (((B 102 3).toNat) + 7) (B (((B 102 3).toNat) + 2) (B 102 6)) (byA B ((B 102 4).toNat) (B 102 7))) = 0 → Q (.inl (some (iv 0))) B) ∧ (¬ bi (hoC B (((B 102 3).toNat) + 7) (B (((B 102 3).toNat) + 2) (B 102 6)) (byA B ((B 102 4).toNat) (B 102 7))) = 0 → qY h1 d n_Wa_take 0 [some (.ref 102)] [] B (fun o B' => ∃ v : Int, o = .inl (some (iv v)) ∧ SH B' ∧ c_Wa_advance_158 h1 d v B' Q))) ∧ (B (((B 102 3).toNat) + 1) (B 102 6) = 3 → R32 (B 102 7) ∧ (¬ B 102 7 = 0 → Q (.inl (some (iv 0))) B) ∧ (B 102 7 = 0 → ob 5 (B 102 3).toNat ∧ 0 ≤ B 102 6 ∧ B 102 6 < 608 ∧ ((1 : Int) = 0 → Q (.inl (some (iv 0))) (u2 B 102 6 (B ((B 102 3).toNat + 3) (B 102 6)))) ∧ (¬ (1 : Int) = 0 → Q (.inl (some (iv 1))) (u2 B 102 6 (B ((B 102 3).toNat + 3) (B 102 6)))))) ∧ (B (((B 102 3).toNat) + 1) (B 102 6) = 4 → ob 1 ((B 102 4).toNat) ∧ R32 (B 102 7) ∧ R32 (B ((B 102 4).toNat) 1) ∧ (¬ B 102 7 = B ((B 102 4).toNat) 1 → Q (.inl (some (iv 0))) B) ∧ (B 102 7 = B ((B 102 4).toNat) 1 → ob 5 (B 102 3).toNat ∧ 0 ≤ B 102 6 ∧ B 102 6 < 608 ∧ ((1 : Int) = 0 → Q (.inl (some (iv 0))) (u2 B 102 6 (B ((B 102 3).toNat + 3) (B 102 6)))) ∧ (¬ (1 : Int) = 0 → Q (.inl (some (iv 1))) (u2 B 102 6 (B ((B 102 3).toNat + 3) (B 102 6)))))) ∧ (B (((B 102 3).toNat) + 1) (B 102 6) = 5 → weO B ∧ (bi (weV B) = 0 → Q (.inl (some (iv 0))) B) ∧ (¬ bi (weV B) = 0 → ob 5 (B 102 3).toNat ∧ 0 ≤ B 102 6 ∧ B 102 6 < 608 ∧ ((1 : Int) = 0 → Q (.inl (some (iv 0))) (u2 B 102 6 (B ((B 102 3).toNat + 3) (B 102 6)))) ∧ (¬ (1 : Int) = 0 → Q (.inl (some (iv 1))) (u2 B 102 6 (B ((B 102 3).toNat + 3) (B 102 6)))))) ∧ (B (((B 102 3).toNat) + 1) (B 102 6) = 6 → weO B ∧ (¬ bi (weV B) = 0 → Q (.inl (some (iv 0))) B) ∧ (bi (weV B) = 0 → ob 5 (B 102 3).toNat ∧ 0 ≤ B 102 6 ∧ B 102 6 < 608 ∧ ((1 : Int) = 0 → Q (.inl (some (iv 0))) (u2 B 102 6 (B ((B 102 3).toNat + 3) (B 102 6)))) ∧ (¬ (1 : Int) = 0 → Q (.inl (some (iv 1))) (u2 B 102 6 (B ((B 102 3).toNat + 3) (B 102 6)))))) ∧ (B (((B 102 3).toNat) + 1) (B 102 6) = 7 → c_Wa_advance_271 h1 d x1 B Q) ∧ (B (((B 102 3).toNat) + 1) (B 102 6) = 8 → c_Wa_advance_271 h1 d x1 B Q) ∧ (B (((B 102 3).toNat) + 1) (B 102 6) = 9 → Q (.inl (some (iv 0))) B) ∧ (B (((B 102 3).toNat) + 1) (B 102 6) = 10 → Q (.inl (some (iv 0))) B) ∧ (B (((B 102 3).toNat) + 1) (B 102 6) = 11 → Q (.inl (some (iv 0))) B) ∧ (B (((B 102 3).toNat) + 1) (B 102 6) = 12 → Q (.inl (some (iv 0))) B) ∧ (B (((B 102 3).toNat) + 1) (B 102 6) = 13 → Q (.inl (some (iv 0))) B) ∧ (B (((B 102 3).toNat) + 1) (B 102 6) = 14 → c_Wa_advance_271 h1 d x1 B Q) ∧ (B (((B 102 3).toNat) + 1) (B 102 6) = 15 → qY h1 d n_Wa_chooseFirst 0 [some (.ref 102)] [] B (fun o B' => ∃ v : Int, o = .inl (some (iv v)) ∧ SH B' ∧ c_Wa_advance_171 h1 d v B' Q)) ∧ (B (((B 102 3).toNat) + 1) (B 102 6) = 16 → qY h1 d n_Wa_endRound 0 [some (.ref 102), some (iv (B (((B 102 3).toNat) + 2) (B 102 6)))] [] B (fun o B' => ∃ v : Int, o = .inl (some (iv v)) ∧ SH B' ∧ c_Wa_advance_177 h1 d v B' Q)) ∧ (B (((B 102 3).toNat) + 1) (B 102 6) = 17 → qY h1 d n_Wa_setMark 0 [some (.ref 102), some (iv (B (((B 102 3).toNat) + 2) (B 102 6)))] [] B (fun o B' => ∃ v : Int, o = .inl (some (iv v)) ∧ SH B' ∧ c_Wa_advance_183 h1 d v B' Q)) ∧ (¬ B (((B 102 3).toNat) + 1) (B 102 6) = 1 → ¬ B (((B 102 3).toNat) + 1) (B 102 6) = 2 → ¬ B (((B 102 3).toNat) + 1) (B 102 6) = 3 → ¬ B (((B 102 3).toNat) + 1) (B 102 6) = 4 → ¬ B (((B 102 3).toNat) + 1) (B 102 6) = 5 → ¬ B (((B 102 3).toNat) + 1) (B 102 6) = 6 → ¬ B (((B 102 3).toNat) + 1) (B 102 6) = 7 → ¬ B (((B 102 3).toNat) + 1) (B 102 6) = 8 → ¬ B (((B 102 3).toNat) + 1) (B 102 6) = 9 → ¬ B (((B 102 3).toNat) + 1) (B 102 6) = 10 → ¬ B (((B 102 3).toNat) + 1) (B 102 6) = 11 → ¬ B (((B 102 3).toNat) + 1) (B 102 6) = 12 → ¬ B (((B 102 3).toNat) + 1) (B 102 6) = 13 → ¬ B (((B 102 3).toNat) + 1) (B 102 6) = 14 → ¬ B (((B 102 3).toNat) + 1) (B 102 6) = 15 → ¬ B (((B 102 3).toNat) + 1) (B 102 6) = 16 → ¬ B (((B 102 3).toNat) + 1) (B 102 6) = 17 → Q (.inl (some (iv 0))) B)
theorem c_Wa_advance_0_ok {h1 : qH} {d : Nat} {x1 : Int} {B : qB} {Q : qO → qB → Prop} (hd : 3 ≤ d) (hS : SH B) (w : c_Wa_advance_0 h1 d x1 B Q) : qY h1 (d + 1) n_Wa_advance 0 [some (.ref 102), some (iv x1), none] [] B Q := by
  unfold c_Wa_advance_0 at w
  obtain ⟨p1, p2, p3, p4, w⟩ := w
  refine y_ldk (ok := q_isA) (n := 0) (ck_at dt_Wa_advance 0 rfl) rfl rfl (fun _ => rfl) rfl rfl ?_
  refine y_getD (K := 9) (j := 3) (a := 102) (ck_at dt_Wa_advance 1 rfl) own_Wa_advance (cf_at 44 rfl) rfl rfl rfl ⟨(SH.o hS ⟨by decide, by decide, by decide⟩), ?_⟩
  refine y_ldk (ok := q_isA) (n := 0) (ck_at dt_Wa_advance 2 rfl) rfl rfl (fun _ => rfl) rfl rfl ?_
  refine y_getI (K := 9) (j := 6) (a := 102) (ck_at dt_Wa_advance 3 rfl) own_Wa_advance (cf_at 47 rfl) rfl rfl rfl ⟨(SH.o hS ⟨by decide, by decide, by decide⟩), ?_⟩
  refine y_virtP (k' := n_Pr_valueOf) (n := 0) (as := [iv (B 102 6)]) (r := []) (ck_at dt_Wa_advance 4 rfl) own_Wa_advance (cm_at 97 rfl) vk_Pr_valueOf rfl nl_Pr_valueOf rfl rfl rfl rfl (SH.o hS p1) (Y_Pr_valueOf (by omega) hS p1 p2 p3 ⟨rfl, rfl⟩) ?_
  refine y_st1 (ok := q_isI) (n := 2) (L' := [some (.ref 102), some (iv x1), some (iv (B (((B 102 3).toNat) + 2) (B 102 6)))]) (ck_at dt_Wa_advance 5 rfl) rfl (fun _ => rfl) (fun _ _ => rfl) rfl nl_Wa_advance (by decide) rfl rfl ?_
  refine y_ldk (ok := q_isA) (n := 0) (ck_at dt_Wa_advance 6 rfl) rfl rfl (fun _ => rfl) rfl rfl ?_
  refine y_getD (K := 9) (j := 3) (a := 102) (ck_at dt_Wa_advance 7 rfl) own_Wa_advance (cf_at 44 rfl) rfl rfl rfl ⟨(SH.o hS ⟨by decide, by decide, by decide⟩), ?_⟩
  refine y_ldk (ok := q_isA) (n := 0) (ck_at dt_Wa_advance 8 rfl) rfl rfl (fun _ => rfl) rfl rfl ?_
  refine y_getI (K := 9) (j := 6) (a := 102) (ck_at dt_Wa_advance 9 rfl) own_Wa_advance (cf_at 47 rfl) rfl rfl rfl ⟨(SH.o hS ⟨by decide, by decide, by decide⟩), ?_⟩
  refine y_virtP (k' := n_Pr_kindOf) (n := 0) (as := [iv (B 102 6)]) (r := []) (ck_at dt_Wa_advance 10 rfl) own_Wa_advance (cm_at 98 rfl) vk_Pr_kindOf rfl nl_Pr_kindOf rfl rfl rfl rfl (SH.o hS p1) (Y_Pr_kindOf (by omega) hS p1 p2 p3 ⟨rfl, rfl⟩) ?_
  have hx := p4
  by_cases q0 : B (((B 102 3).toNat) + 1) (B 102 6) = 1
  · have w := w.1 q0
    refine y_swc (c := 1) (t := 104) (ck_at dt_Wa_advance 11 rfl) rfl (fun _ => rfl) (fun _ _ => rfl) q0 rfl ?_
    obtain ⟨p5, p6, p7, p8, p9, w⟩ := w
    refine y_ldk (ok := q_isA) (n := 0) (ck_at dt_Wa_advance 12 rfl) rfl rfl (fun _ => rfl) rfl rfl ?_
    refine y_getD (K := 9) (j := 4) (a := 102) (ck_at dt_Wa_advance 13 rfl) own_Wa_advance (cf_at 45 rfl) rfl rfl rfl ⟨(SH.o hS ⟨by decide, by decide, by decide⟩), ?_⟩
    refine y_ldk (ok := q_isA) (n := 0) (ck_at dt_Wa_advance 14 rfl) rfl rfl (fun _ => rfl) rfl rfl ?_
    refine y_getI (K := 9) (j := 7) (a := 102) (ck_at dt_Wa_advance 15 rfl) own_Wa_advance (cf_at 48 rfl) rfl rfl rfl ⟨(SH.o hS ⟨by decide, by decide, by decide⟩), ?_⟩
    refine y_virtP (k' := n_By_at) (n := 0) (as := [iv (B 102 7)]) (r := []) (ck_at dt_Wa_advance 16 rfl) own_Wa_advance (cm_at 99 rfl) vk_By_at rfl nl_By_at rfl rfl rfl rfl (SH.o hS p5) (Y_By_at (by omega) hS p5 p6 p7 ⟨rfl, rfl⟩) ?_
    refine y_ldk (ok := q_isI) (n := 2) (ck_at dt_Wa_advance 17 rfl) rfl rfl (fun _ => rfl) rfl rfl ?_
    refine y_icmp (t := 130) (ck_at dt_Wa_advance 18 rfl) rfl p8 p9 ?_ ?_
    · intro q; have w := w.1 q
      refine y_op (ck_at dt_Wa_advance 24 rfl) rfl (o_const _) ?_
      exact y_retZ (ck_at dt_Wa_advance 25 rfl) rt_Wa_advance (by decide) w
    · intro q; have w := w.2 q
      refine y_ldk (ok := q_isA) (n := 0) (ck_at dt_Wa_advance 19 rfl) rfl rfl (fun _ => rfl) rfl rfl ?_
      refine y_virt (k' := n_Wa_take) (n := 0) (as := []) (r := []) (ck_at dt_Wa_advance 20 rfl) own_Wa_advance (cm_at 100 rfl) vk_Wa_take rfl nl_Wa_take rfl rfl rfl rfl ⟨(SH.o hS ⟨by decide, by decide, by decide⟩), ?_⟩
      exact w.mono (Nat.le_refl _) (fun o B' ⟨v, ho, hS', w⟩ => Or.inl ⟨some (iv v), ho, y_wk (c_Wa_advance_123_ok (by omega) hS' w) trivial⟩)
  by_cases q1 : B (((B 102 3).toNat) + 1) (B 102 6) = 2
  · have w := w.2.1 q1
    refine y_swc (c := 2) (t := 132) (ck_at dt_Wa_advance 11 rfl) rfl (fun _ => rfl) (fun _ _ => rfl) q1 rfl ?_
    obtain ⟨p10, p11, p12, p13, w⟩ := w
    refine y_ldk (ok := q_isA) (n := 0) (ck_at dt_Wa_advance 26 rfl) rfl rfl (fun _ => rfl) rfl rfl ?_
    refine y_getD (K := 9) (j := 3) (a := 102) (ck_at dt_Wa_advance 27 rfl) own_Wa_advance (cf_at 44 rfl) rfl rfl rfl ⟨(SH.o hS ⟨by decide, by decide, by decide⟩), ?_⟩
    refine y_ldk (ok := q_isI) (n := 2) (ck_at dt_Wa_advance 28 rfl) rfl rfl (fun _ => rfl) rfl rfl ?_
    refine y_ldk (ok := q_isA) (n := 0) (ck_at dt_Wa_advance 29 rfl) rfl rfl (fun _ => rfl) rfl rfl ?_
    refine y_getD (K := 9) (j := 4) (a := 102) (ck_at dt_Wa_advance 30 rfl) own_Wa_advance (cf_at 45 rfl) rfl rfl rfl ⟨(SH.o hS ⟨by decide, by decide, by decide⟩), ?_⟩
    refine y_ldk (ok := q_isA) (n := 0) (ck_at dt_Wa_advance 31 rfl) rfl rfl (fun _ => rfl) rfl rfl ?_
    refine y_getI (K := 9) (j := 7) (a := 102) (ck_at dt_Wa_advance 32 rfl) own_Wa_advance (cf_at 48 rfl) rfl rfl rfl ⟨(SH.o hS ⟨by decide, by decide, by decide⟩), ?_⟩
    refine y_virtP (k' := n_By_at) (n := 0) (as := [iv (B 102 7)]) (r := [iv (B (((B 102 3).toNat) + 2) (B 102 6)), .ref ((B 102 3).toNat)]) (ck_at dt_Wa_advance 33 rfl) own_Wa_advance (cm_at 99 rfl) vk_By_at rfl nl_By_at rfl rfl rfl rfl (SH.o hS p10) (Y_By_at (by omega) hS p10 p11 p12 ⟨rfl, rfl⟩) ?_
    refine y_virtP (k' := n_Pr_holds) (n := 0) (as := [iv (B (((B 102 3).toNat) + 2) (B 102 6)), iv (byA B ((B 102 4).toNat) (B 102 7))]) (r := []) (ck_at dt_Wa_advance 34 rfl) own_Wa_advance (cm_at 101 rfl) vk_Pr_holds rfl nl_Pr_holds rfl rfl rfl rfl (SH.o hS p1) (Y_Pr_holds (by omega) hS p1 p13 ⟨rfl, rfl⟩) ?_
    refine y_ifz (t := 165) (ck_at dt_Wa_advance 35 rfl) rfl (R32_bi _) ?_ ?_
    · intro q; have w := w.1 q
      refine y_op (ck_at dt_Wa_advance 41 rfl) rfl (o_const _) ?_
      exact y_retZ (ck_at dt_Wa_advance 42 rfl) rt_Wa_advance (by decide) w
    · intro q; have w := w.2 q
      refine y_ldk (ok := q_isA) (n := 0) (ck_at dt_Wa_advance 36 rfl) rfl rfl (fun _ => rfl) rfl rfl ?_
      refine y_virt (k' := n_Wa_take) (n := 0) (as := []) (r := []) (ck_at dt_Wa_advance 37 rfl) own_Wa_advance (cm_at 100 rfl) vk_Wa_take rfl nl_Wa_take rfl rfl rfl rfl ⟨(SH.o hS ⟨by decide, by decide, by decide⟩), ?_⟩
      exact w.mono (Nat.le_refl _) (fun o B' ⟨v, ho, hS', w⟩ => Or.inl ⟨some (iv v), ho, y_wk (c_Wa_advance_158_ok (by omega) hS' w) trivial⟩)
  by_cases q2 : B (((B 102 3).toNat) + 1) (B 102 6) = 3
  · have w := w.2.2.1 q2
    refine y_swc (c := 3) (t := 184) (ck_at dt_Wa_advance 11 rfl) rfl (fun _ => rfl) (fun _ _ => rfl) q2 rfl ?_
    obtain ⟨p14, w⟩ := w
    refine y_ldk (ok := q_isA) (n := 0) (ck_at dt_Wa_advance 54 rfl) rfl rfl (fun _ => rfl) rfl rfl ?_
    refine y_getI (K := 9) (j := 7) (a := 102) (ck_at dt_Wa_advance 55 rfl) own_Wa_advance (cf_at 48 rfl) rfl rfl rfl ⟨(SH.o hS ⟨by decide, by decide, by decide⟩), ?_⟩
    refine y_ifz (t := 202) (ck_at dt_Wa_advance 56 rfl) rfl p14 ?_ ?_
    · intro q; have w := w.1 q
      refine y_op (ck_at dt_Wa_advance 62 rfl) rfl (o_const _) ?_
      exact y_retZ (ck_at dt_Wa_advance 63 rfl) rt_Wa_advance (by decide) w
    · intro q; have w := w.2 q
      obtain ⟨p15, p16, p17, w⟩ := w
      refine y_ldk (ok := q_isA) (n := 0) (ck_at dt_Wa_advance 57 rfl) rfl rfl (fun _ => rfl) rfl rfl ?_
      refine y_virtP (k' := n_Wa_pass) (n := 0) (as := []) (r := []) (ck_at dt_Wa_advance 58 rfl) own_Wa_advance (cm_at 105 rfl) vk_Wa_pass rfl nl_Wa_pass rfl rfl rfl rfl (SH.o hS ⟨by decide, by decide, by decide⟩) (Y_Wa_pass (by omega) hS p15 p16 p17 ⟨rfl, rfl⟩) ?_
      have hS18 := SH_u2 (b := 102) (x := 6) (z := B ((B 102 3).toNat + 3) (B 102 6)) hS (by decide)
      refine y_ifz (t := 202) (ck_at dt_Wa_advance 59 rfl) rfl ⟨by decide, by decide⟩ ?_ ?_
      · intro q; have w := w.1 q
        refine y_op (ck_at dt_Wa_advance 62 rfl) rfl (o_const _) ?_
        exact y_retZ (ck_at dt_Wa_advance 63 rfl) rt_Wa_advance (by decide) w
      · intro q; have w := w.2 q
        refine y_op (ck_at dt_Wa_advance 60 rfl) rfl (o_const _) ?_
        refine y_goto (t := 203) (ck_at dt_Wa_advance 61 rfl) rfl ?_
        exact y_retZ (ck_at dt_Wa_advance 63 rfl) rt_Wa_advance (by decide) w
  by_cases q3 : B (((B 102 3).toNat) + 1) (B 102 6) = 4
  · have w := w.2.2.2.1 q3
    refine y_swc (c := 4) (t := 204) (ck_at dt_Wa_advance 11 rfl) rfl (fun _ => rfl) (fun _ _ => rfl) q3 rfl ?_
    obtain ⟨p19, p20, p21, w⟩ := w
    refine y_ldk (ok := q_isA) (n := 0) (ck_at dt_Wa_advance 64 rfl) rfl rfl (fun _ => rfl) rfl rfl ?_
    refine y_getI (K := 9) (j := 7) (a := 102) (ck_at dt_Wa_advance 65 rfl) own_Wa_advance (cf_at 48 rfl) rfl rfl rfl ⟨(SH.o hS ⟨by decide, by decide, by decide⟩), ?_⟩
    refine y_ldk (ok := q_isA) (n := 0) (ck_at dt_Wa_advance 66 rfl) rfl rfl (fun _ => rfl) rfl rfl ?_
    refine y_getD (K := 9) (j := 4) (a := 102) (ck_at dt_Wa_advance 67 rfl) own_Wa_advance (cf_at 45 rfl) rfl rfl rfl ⟨(SH.o hS ⟨by decide, by decide, by decide⟩), ?_⟩
    refine y_virtP (k' := n_By_size) (n := 0) (as := []) (r := [iv (B 102 7)]) (ck_at dt_Wa_advance 68 rfl) own_Wa_advance (cm_at 86 rfl) vk_By_size rfl nl_By_size rfl rfl rfl rfl (SH.o hS p19) (Y_By_size (by omega) hS p19 ⟨rfl, rfl⟩) ?_
    refine y_icmp (t := 229) (ck_at dt_Wa_advance 69 rfl) rfl p20 p21 ?_ ?_
    · intro q; have w := w.1 q
      refine y_op (ck_at dt_Wa_advance 75 rfl) rfl (o_const _) ?_
      exact y_retZ (ck_at dt_Wa_advance 76 rfl) rt_Wa_advance (by decide) w
    · intro q; have w := w.2 q
      obtain ⟨p22, p23, p24, w⟩ := w
      refine y_ldk (ok := q_isA) (n := 0) (ck_at dt_Wa_advance 70 rfl) rfl rfl (fun _ => rfl) rfl rfl ?_
      refine y_virtP (k' := n_Wa_pass) (n := 0) (as := []) (r := []) (ck_at dt_Wa_advance 71 rfl) own_Wa_advance (cm_at 105 rfl) vk_Wa_pass rfl nl_Wa_pass rfl rfl rfl rfl (SH.o hS ⟨by decide, by decide, by decide⟩) (Y_Wa_pass (by omega) hS p22 p23 p24 ⟨rfl, rfl⟩) ?_
      have hS25 := SH_u2 (b := 102) (x := 6) (z := B ((B 102 3).toNat + 3) (B 102 6)) hS (by decide)
      refine y_ifz (t := 229) (ck_at dt_Wa_advance 72 rfl) rfl ⟨by decide, by decide⟩ ?_ ?_
      · intro q; have w := w.1 q
        refine y_op (ck_at dt_Wa_advance 75 rfl) rfl (o_const _) ?_
        exact y_retZ (ck_at dt_Wa_advance 76 rfl) rt_Wa_advance (by decide) w
      · intro q; have w := w.2 q
        refine y_op (ck_at dt_Wa_advance 73 rfl) rfl (o_const _) ?_
        refine y_goto (t := 230) (ck_at dt_Wa_advance 74 rfl) rfl ?_
        exact y_retZ (ck_at dt_Wa_advance 76 rfl) rt_Wa_advance (by decide) w
  by_cases q4 : B (((B 102 3).toNat) + 1) (B 102 6) = 5
  · have w := w.2.2.2.2.1 q4
    refine y_swc (c := 5) (t := 231) (ck_at dt_Wa_advance 11 rfl) rfl (fun _ => rfl) (fun _ _ => rfl) q4 rfl ?_
    obtain ⟨p26, w⟩ := w
    refine y_ldk (ok := q_isA) (n := 0) (ck_at dt_Wa_advance 77 rfl) rfl rfl (fun _ => rfl) rfl rfl ?_
    refine y_virtP (k' := n_Wa_isEdge) (n := 0) (as := []) (r := []) (ck_at dt_Wa_advance 78 rfl) own_Wa_advance (cm_at 106 rfl) vk_Wa_isEdge rfl nl_Wa_isEdge rfl rfl rfl rfl (SH.o hS ⟨by decide, by decide, by decide⟩) (Y_Wa_isEdge (by omega) hS p26 ⟨rfl, rfl⟩) ?_
    refine y_ifz (t := 249) (ck_at dt_Wa_advance 79 rfl) rfl (R32_bi _) ?_ ?_
    · intro q; have w := w.1 q
      refine y_op (ck_at dt_Wa_advance 85 rfl) rfl (o_const _) ?_
      exact y_retZ (ck_at dt_Wa_advance 86 rfl) rt_Wa_advance (by decide) w
    · intro q; have w := w.2 q
      obtain ⟨p27, p28, p29, w⟩ := w
      refine y_ldk (ok := q_isA) (n := 0) (ck_at dt_Wa_advance 80 rfl) rfl rfl (fun _ => rfl) rfl rfl ?_
      refine y_virtP (k' := n_Wa_pass) (n := 0) (as := []) (r := []) (ck_at dt_Wa_advance 81 rfl) own_Wa_advance (cm_at 105 rfl) vk_Wa_pass rfl nl_Wa_pass rfl rfl rfl rfl (SH.o hS ⟨by decide, by decide, by decide⟩) (Y_Wa_pass (by omega) hS p27 p28 p29 ⟨rfl, rfl⟩) ?_
      have hS30 := SH_u2 (b := 102) (x := 6) (z := B ((B 102 3).toNat + 3) (B 102 6)) hS (by decide)
      refine y_ifz (t := 249) (ck_at dt_Wa_advance 82 rfl) rfl ⟨by decide, by decide⟩ ?_ ?_
      · intro q; have w := w.1 q
        refine y_op (ck_at dt_Wa_advance 85 rfl) rfl (o_const _) ?_
        exact y_retZ (ck_at dt_Wa_advance 86 rfl) rt_Wa_advance (by decide) w
      · intro q; have w := w.2 q
        refine y_op (ck_at dt_Wa_advance 83 rfl) rfl (o_const _) ?_
        refine y_goto (t := 250) (ck_at dt_Wa_advance 84 rfl) rfl ?_
        exact y_retZ (ck_at dt_Wa_advance 86 rfl) rt_Wa_advance (by decide) w
  by_cases q5 : B (((B 102 3).toNat) + 1) (B 102 6) = 6
  · have w := w.2.2.2.2.2.1 q5
    refine y_swc (c := 6) (t := 251) (ck_at dt_Wa_advance 11 rfl) rfl (fun _ => rfl) (fun _ _ => rfl) q5 rfl ?_
    obtain ⟨p31, w⟩ := w
    refine y_ldk (ok := q_isA) (n := 0) (ck_at dt_Wa_advance 87 rfl) rfl rfl (fun _ => rfl) rfl rfl ?_
    refine y_virtP (k' := n_Wa_isEdge) (n := 0) (as := []) (r := []) (ck_at dt_Wa_advance 88 rfl) own_Wa_advance (cm_at 106 rfl) vk_Wa_isEdge rfl nl_Wa_isEdge rfl rfl rfl rfl (SH.o hS ⟨by decide, by decide, by decide⟩) (Y_Wa_isEdge (by omega) hS p31 ⟨rfl, rfl⟩) ?_
    refine y_ifz (t := 269) (ck_at dt_Wa_advance 89 rfl) rfl (R32_bi _) ?_ ?_
    · intro q; have w := w.1 q
      refine y_op (ck_at dt_Wa_advance 95 rfl) rfl (o_const _) ?_
      exact y_retZ (ck_at dt_Wa_advance 96 rfl) rt_Wa_advance (by decide) w
    · intro q; have w := w.2 q
      obtain ⟨p32, p33, p34, w⟩ := w
      refine y_ldk (ok := q_isA) (n := 0) (ck_at dt_Wa_advance 90 rfl) rfl rfl (fun _ => rfl) rfl rfl ?_
      refine y_virtP (k' := n_Wa_pass) (n := 0) (as := []) (r := []) (ck_at dt_Wa_advance 91 rfl) own_Wa_advance (cm_at 105 rfl) vk_Wa_pass rfl nl_Wa_pass rfl rfl rfl rfl (SH.o hS ⟨by decide, by decide, by decide⟩) (Y_Wa_pass (by omega) hS p32 p33 p34 ⟨rfl, rfl⟩) ?_
      have hS35 := SH_u2 (b := 102) (x := 6) (z := B ((B 102 3).toNat + 3) (B 102 6)) hS (by decide)
      refine y_ifz (t := 269) (ck_at dt_Wa_advance 92 rfl) rfl ⟨by decide, by decide⟩ ?_ ?_
      · intro q; have w := w.1 q
        refine y_op (ck_at dt_Wa_advance 95 rfl) rfl (o_const _) ?_
        exact y_retZ (ck_at dt_Wa_advance 96 rfl) rt_Wa_advance (by decide) w
      · intro q; have w := w.2 q
        refine y_op (ck_at dt_Wa_advance 93 rfl) rfl (o_const _) ?_
        refine y_goto (t := 270) (ck_at dt_Wa_advance 94 rfl) rfl ?_
        exact y_retZ (ck_at dt_Wa_advance 96 rfl) rt_Wa_advance (by decide) w
  by_cases q6 : B (((B 102 3).toNat) + 1) (B 102 6) = 7
  · have w := w.2.2.2.2.2.2.1 q6
    refine y_swc (c := 7) (t := 271) (ck_at dt_Wa_advance 11 rfl) rfl (fun _ => rfl) (fun _ _ => rfl) q6 rfl ?_
    exact y_wk (c_Wa_advance_271_ok (by omega) hS w) ⟨rfl, ⟨rfl, trivial⟩⟩
  by_cases q7 : B (((B 102 3).toNat) + 1) (B 102 6) = 8
  · have w := w.2.2.2.2.2.2.2.1 q7
    refine y_swc (c := 8) (t := 271) (ck_at dt_Wa_advance 11 rfl) rfl (fun _ => rfl) (fun _ _ => rfl) q7 rfl ?_
    exact y_wk (c_Wa_advance_271_ok (by omega) hS w) ⟨rfl, ⟨rfl, trivial⟩⟩
  by_cases q8 : B (((B 102 3).toNat) + 1) (B 102 6) = 9
  · have w := w.2.2.2.2.2.2.2.2.1 q8
    refine y_swc (c := 9) (t := 277) (ck_at dt_Wa_advance 11 rfl) rfl (fun _ => rfl) (fun _ _ => rfl) q8 rfl ?_
    refine y_op (ck_at dt_Wa_advance 101 rfl) rfl (o_const _) ?_
    exact y_retZ (ck_at dt_Wa_advance 102 rfl) rt_Wa_advance (by decide) w
  by_cases q9 : B (((B 102 3).toNat) + 1) (B 102 6) = 10
  · have w := w.2.2.2.2.2.2.2.2.2.1 q9
    refine y_swc (c := 10) (t := 277) (ck_at dt_Wa_advance 11 rfl) rfl (fun _ => rfl) (fun _ _ => rfl) q9 rfl ?_
    refine y_op (ck_at dt_Wa_advance 101 rfl) rfl (o_const _) ?_
    exact y_retZ (ck_at dt_Wa_advance 102 rfl) rt_Wa_advance (by decide) w
  by_cases q10 : B (((B 102 3).toNat) + 1) (B 102 6) = 11
  · have w := w.2.2.2.2.2.2.2.2.2.2.1 q10
    refine y_swc (c := 11) (t := 277) (ck_at dt_Wa_advance 11 rfl) rfl (fun _ => rfl) (fun _ _ => rfl) q10 rfl ?_
    refine y_op (ck_at dt_Wa_advance 101 rfl) rfl (o_const _) ?_
    exact y_retZ (ck_at dt_Wa_advance 102 rfl) rt_Wa_advance (by decide) w
  by_cases q11 : B (((B 102 3).toNat) + 1) (B 102 6) = 12
  · have w := w.2.2.2.2.2.2.2.2.2.2.2.1 q11
    refine y_swc (c := 12) (t := 277) (ck_at dt_Wa_advance 11 rfl) rfl (fun _ => rfl) (fun _ _ => rfl) q11 rfl ?_
    refine y_op (ck_at dt_Wa_advance 101 rfl) rfl (o_const _) ?_
    exact y_retZ (ck_at dt_Wa_advance 102 rfl) rt_Wa_advance (by decide) w
  by_cases q12 : B (((B 102 3).toNat) + 1) (B 102 6) = 13
  · have w := w.2.2.2.2.2.2.2.2.2.2.2.2.1 q12
    refine y_swc (c := 13) (t := 277) (ck_at dt_Wa_advance 11 rfl) rfl (fun _ => rfl) (fun _ _ => rfl) q12 rfl ?_
    refine y_op (ck_at dt_Wa_advance 101 rfl) rfl (o_const _) ?_
    exact y_retZ (ck_at dt_Wa_advance 102 rfl) rt_Wa_advance (by decide) w
  by_cases q13 : B (((B 102 3).toNat) + 1) (B 102 6) = 14
  · have w := w.2.2.2.2.2.2.2.2.2.2.2.2.2.1 q13
    refine y_swc (c := 14) (t := 271) (ck_at dt_Wa_advance 11 rfl) rfl (fun _ => rfl) (fun _ _ => rfl) q13 rfl ?_
    exact y_wk (c_Wa_advance_271_ok (by omega) hS w) ⟨rfl, ⟨rfl, trivial⟩⟩
  by_cases q14 : B (((B 102 3).toNat) + 1) (B 102 6) = 15
  · have w := w.2.2.2.2.2.2.2.2.2.2.2.2.2.2.1 q14
    refine y_swc (c := 15) (t := 167) (ck_at dt_Wa_advance 11 rfl) rfl (fun _ => rfl) (fun _ _ => rfl) q14 rfl ?_
    refine y_ldk (ok := q_isA) (n := 0) (ck_at dt_Wa_advance 43 rfl) rfl rfl (fun _ => rfl) rfl rfl ?_
    refine y_virt (k' := n_Wa_chooseFirst) (n := 0) (as := []) (r := []) (ck_at dt_Wa_advance 44 rfl) own_Wa_advance (cm_at 102 rfl) vk_Wa_chooseFirst rfl nl_Wa_chooseFirst rfl rfl rfl rfl ⟨(SH.o hS ⟨by decide, by decide, by decide⟩), ?_⟩
    exact w.mono (Nat.le_refl _) (fun o B' ⟨v, ho, hS', w⟩ => Or.inl ⟨some (iv v), ho, y_wk (c_Wa_advance_171_ok (by omega) hS' w) trivial⟩)
  by_cases q15 : B (((B 102 3).toNat) + 1) (B 102 6) = 16
  · have w := w.2.2.2.2.2.2.2.2.2.2.2.2.2.2.2.1 q15
    refine y_swc (c := 16) (t := 172) (ck_at dt_Wa_advance 11 rfl) rfl (fun _ => rfl) (fun _ _ => rfl) q15 rfl ?_
    refine y_ldk (ok := q_isA) (n := 0) (ck_at dt_Wa_advance 46 rfl) rfl rfl (fun _ => rfl) rfl rfl ?_
    refine y_ldk (ok := q_isI) (n := 2) (ck_at dt_Wa_advance 47 rfl) rfl rfl (fun _ => rfl) rfl rfl ?_
    refine y_virt (k' := n_Wa_endRound) (n := 0) (as := [iv (B (((B 102 3).toNat) + 2) (B 102 6))]) (r := []) (ck_at dt_Wa_advance 48 rfl) own_Wa_advance (cm_at 103 rfl) vk_Wa_endRound rfl nl_Wa_endRound rfl rfl rfl rfl ⟨(SH.o hS ⟨by decide, by decide, by decide⟩), ?_⟩
    exact w.mono (Nat.le_refl _) (fun o B' ⟨v, ho, hS', w⟩ => Or.inl ⟨some (iv v), ho, y_wk (c_Wa_advance_177_ok (by omega) hS' w) trivial⟩)
  by_cases q16 : B (((B 102 3).toNat) + 1) (B 102 6) = 17
  · have w := w.2.2.2.2.2.2.2.2.2.2.2.2.2.2.2.2.1 q16
    refine y_swc (c := 17) (t := 178) (ck_at dt_Wa_advance 11 rfl) rfl (fun _ => rfl) (fun _ _ => rfl) q16 rfl ?_
    refine y_ldk (ok := q_isA) (n := 0) (ck_at dt_Wa_advance 50 rfl) rfl rfl (fun _ => rfl) rfl rfl ?_
    refine y_ldk (ok := q_isI) (n := 2) (ck_at dt_Wa_advance 51 rfl) rfl rfl (fun _ => rfl) rfl rfl ?_
    refine y_virt (k' := n_Wa_setMark) (n := 0) (as := [iv (B (((B 102 3).toNat) + 2) (B 102 6))]) (r := []) (ck_at dt_Wa_advance 52 rfl) own_Wa_advance (cm_at 104 rfl) vk_Wa_setMark rfl nl_Wa_setMark rfl rfl rfl rfl ⟨(SH.o hS ⟨by decide, by decide, by decide⟩), ?_⟩
    exact w.mono (Nat.le_refl _) (fun o B' ⟨v, ho, hS', w⟩ => Or.inl ⟨some (iv v), ho, y_wk (c_Wa_advance_183_ok (by omega) hS' w) trivial⟩)
  have w := w.2.2.2.2.2.2.2.2.2.2.2.2.2.2.2.2.2 q0 q1 q2 q3 q4 q5 q6 q7 q8 q9 q10 q11 q12 q13 q14 q15 q16
  refine y_tswd (x := B (((B 102 3).toNat) + 1) (B 102 6)) (t := 277) (ck_at dt_Wa_advance 11 rfl) hx (by omega) rfl ?_
  refine y_op (ck_at dt_Wa_advance 101 rfl) rfl (o_const _) ?_
  exact y_retZ (ck_at dt_Wa_advance 102 rfl) rt_Wa_advance (by decide) w
/-! PatternTrier$Walker.walk(III)I -/
def t_Wa_walk : List (Nat × Instr × Nat) := [(0, .aload_n 0, 1), (1, .getfield 12, 3), (4, .invokevirtual 91, 3), (7, .istore 4, 2), (9, .aload_n 0, 1), (10, .iload_n 1, 1), (11, .putfield 92, 3), (14, .aload_n 0, 1), (15, .iload_n 2, 1), (16, .putfield 96, 3), (19, .aload_n 0, 1), (20, .iconst 0, 1), (21, .putfield 99, 3), (24, .iconst 0, 1), (25, .istore 5, 2), (27, .iload 5, 2), (29, .ldc 102, 2), (31, .if_icmp .ge 75, 3), (34, .aload_n 0, 1), (35, .getfield 92, 3), (38, .ifCond .ne 39, 3), (41, .iload_n 3, 1), (42, .ifCond .gt 24, 3), (45, .aload_n 0, 1), (46, .getfield 37, 3), (49, .ifCond .eq 17, 3), (52, .aload_n 0, 1), (53, .getfield 96, 3), (56, .aload_n 0, 1), (57, .getfield 33, 3), (60, .invokevirtual 47, 3), (63, .if_icmp .ne 8, 3), (66, .aload_n 0, 1), (67, .getfield 96, 3), (70, .ireturn, 1), (71, .iconst 0, 1), (72, .istore 6, 2), (74, .goto 10, 3), (77, .aload_n 0, 1), (78, .iload_n 3, 1), (79, .invokevirtual 103, 3), (82, .istore 6, 2), (84, .iload 6, 2), (86, .ifCond .ne 14, 3), (89, .aload_n 0, 1), (90, .iload 4, 2), (92, .invokevirtual 107, 3), (95, .ifCond .ne 5, 3), (98, .iconst (-1), 1), (99, .ireturn, 1), (100, .iinc 5 1, 3), (103, .goto (-76), 3), (106, .iconst (-1), 1), (107, .ireturn, 1)]
set_option maxRecDepth 100000 in
theorem dt_Wa_walk : q_ck n_Wa_walk t_Wa_walk = true := by decide +kernel
def c_Wa_walk_100 (h1 : qH) (d : Nat) (x3 : Int) (x4 : Int) (x5 : Int) (B : qB) (Q : qO → qB → Prop) : Prop := qY h1 (d + 1) n_Wa_walk 27 [some (.ref 102), none, none, some (iv x3), some (iv x4), some (iv (x5 + 1)), none] [] B Q
theorem c_Wa_walk_100_ok {h1 : qH} {d : Nat} {x3 : Int} {x4 : Int} {x5 : Int} {B : qB} {Q : qO → qB → Prop} (hd : 1 ≤ d) (hS : SH B) (w : c_Wa_walk_100 h1 d x3 x4 x5 B Q) : qY h1 (d + 1) n_Wa_walk 100 [some (.ref 102), none, none, some (iv x3), some (iv x4), some (iv x5), none] [] B Q := by
  unfold c_Wa_walk_100 at w
  refine y_iinc (n := 5) (L' := [some (.ref 102), none, none, some (iv x3), some (iv x4), some (iv (x5 + 1)), none]) (ck_at dt_Wa_walk 50 rfl) rfl nl_Wa_walk (by decide) rfl rfl ?_
  refine y_goto (t := 27) (ck_at dt_Wa_walk 51 rfl) rfl ?_
  exact y_wk w ⟨rfl, ⟨rfl, ⟨rfl, ⟨rfl, trivial⟩⟩⟩⟩
def c_Wa_walk_95 (h1 : qH) (d : Nat) (x3 : Int) (x4 : Int) (x5 : Int) (s0 : Int) (B : qB) (Q : qO → qB → Prop) : Prop := R32 s0 ∧ (¬ s0 = 0 → c_Wa_walk_100 h1 d x3 x4 x5 B Q) ∧ (s0 = 0 → Q (.inl (some (iv (-1)))) B)
theorem c_Wa_walk_95_ok {h1 : qH} {d : Nat} {x3 : Int} {x4 : Int} {x5 : Int} {s0 : Int} {B : qB} {Q : qO → qB → Prop} (hd : 1 ≤ d) (hS : SH B) (w : c_Wa_walk_95 h1 d x3 x4 x5 s0 B Q) : qY h1 (d + 1) n_Wa_walk 95 [some (.ref 102), none, none, some (iv x3), some (iv x4), some (iv x5), none] [iv s0] B Q := by
  unfold c_Wa_walk_95 at w
  obtain ⟨p1, w⟩ := w
  refine y_ifz (t := 100) (ck_at dt_Wa_walk 47 rfl) rfl p1 ?_ ?_
  · intro q; have w := w.1 q
    exact y_wk (c_Wa_walk_100_ok (by omega) hS w) ⟨rfl, ⟨rfl, ⟨rfl, ⟨rfl, trivial⟩⟩⟩⟩
  · intro q; have w := w.2 q
    refine y_op (ck_at dt_Wa_walk 48 rfl) rfl (o_const _) ?_
    exact y_retI (ck_at dt_Wa_walk 49 rfl) rt_Wa_walk w
def c_Wa_walk_84 (h1 : qH) (d : Nat) (x3 : Int) (x4 : Int) (x5 : Int) (x6 : Int) (B : qB) (Q : qO → qB → Prop) : Prop := R32 x6 ∧ (¬ x6 = 0 → c_Wa_walk_100 h1 d x3 x4 x5 B Q) ∧ (x6 = 0 → qY h1 d n_Wa_goBack 0 [some (.ref 102), some (iv x4), none, none, none, none, none] [] B (fun o B' => ∃ v : Int, o = .inl (some (iv v)) ∧ SH B' ∧ c_Wa_walk_95 h1 d x3 x4 x5 v B' Q))
theorem c_Wa_walk_84_ok {h1 : qH} {d : Nat} {x3 : Int} {x4 : Int} {x5 : Int} {x6 : Int} {B : qB} {Q : qO → qB → Prop} (hd : 1 ≤ d) (hS : SH B) (w : c_Wa_walk_84 h1 d x3 x4 x5 x6 B Q) : qY h1 (d + 1) n_Wa_walk 84 [some (.ref 102), none, none, some (iv x3), some (iv x4), some (iv x5), some (iv x6)] [] B Q := by
  unfold c_Wa_walk_84 at w
  obtain ⟨p1, w⟩ := w
  refine y_ldk (ok := q_isI) (n := 6) (ck_at dt_Wa_walk 42 rfl) rfl rfl (fun _ => rfl) rfl rfl ?_
  refine y_ifz (t := 100) (ck_at dt_Wa_walk 43 rfl) rfl p1 ?_ ?_
  · intro q; have w := w.1 q
    exact y_wk (c_Wa_walk_100_ok (by omega) hS w) ⟨rfl, ⟨rfl, ⟨rfl, ⟨rfl, trivial⟩⟩⟩⟩
  · intro q; have w := w.2 q
    refine y_ldk (ok := q_isA) (n := 0) (ck_at dt_Wa_walk 44 rfl) rfl rfl (fun _ => rfl) rfl rfl ?_
    refine y_ldk (ok := q_isI) (n := 4) (ck_at dt_Wa_walk 45 rfl) rfl rfl (fun _ => rfl) rfl rfl ?_
    refine y_virt (k' := n_Wa_goBack) (n := 5) (as := [iv x4]) (r := []) (ck_at dt_Wa_walk 46 rfl) own_Wa_walk (cm_at 96 rfl) vk_Wa_goBack rfl nl_Wa_goBack rfl rfl rfl rfl ⟨(SH.o hS ⟨by decide, by decide, by decide⟩), ?_⟩
    exact w.mono (Nat.le_refl _) (fun o B' ⟨v, ho, hS', w⟩ => Or.inl ⟨some (iv v), ho, y_wk (c_Wa_walk_95_ok (by omega) hS' w) ⟨rfl, ⟨rfl, ⟨rfl, ⟨rfl, trivial⟩⟩⟩⟩⟩)
def c_Wa_walk_82 (h1 : qH) (d : Nat) (x3 : Int) (x4 : Int) (x5 : Int) (s0 : Int) (B : qB) (Q : qO → qB → Prop) : Prop := c_Wa_walk_84 h1 d x3 x4 x5 s0 B Q
theorem c_Wa_walk_82_ok {h1 : qH} {d : Nat} {x3 : Int} {x4 : Int} {x5 : Int} {s0 : Int} {B : qB} {Q : qO → qB → Prop} (hd : 1 ≤ d) (hS : SH B) (w : c_Wa_walk_82 h1 d x3 x4 x5 s0 B Q) : qY h1 (d + 1) n_Wa_walk 82 [some (.ref 102), none, none, some (iv x3), some (iv x4), some (iv x5), none] [iv s0] B Q := by
  unfold c_Wa_walk_82 at w
  refine y_st1 (ok := q_isI) (n := 6) (L' := [some (.ref 102), none, none, some (iv x3), some (iv x4), some (iv x5), some (iv s0)]) (ck_at dt_Wa_walk 41 rfl) rfl (fun _ => rfl) (fun _ _ => rfl) rfl nl_Wa_walk (by decide) rfl rfl ?_
  exact y_wk (c_Wa_walk_84_ok (by omega) hS w) ⟨rfl, ⟨rfl, ⟨rfl, ⟨rfl, ⟨rfl, trivial⟩⟩⟩⟩⟩
def c_Wa_walk_27 (h1 : qH) (d : Nat) (x3 : Int) (x4 : Int) (x5 : Int) (B : qB) (Q : qO → qB → Prop) : Prop := R32 x5 ∧ (x5 ≥ 1000000000 → Q (.inl (some (iv (-1)))) B) ∧ (x5 < 1000000000 → R32 (B 102 6) ∧ (¬ B 102 6 = 0 → qY h1 d n_Wa_advance 0 [some (.ref 102), some (iv x3), none] [] B (fun o B' => ∃ v : Int, o = .inl (some (iv v)) ∧ SH B' ∧ c_Wa_walk_82 h1 d x3 x4 x5 v B' Q)) ∧ (B 102 6 = 0 → R32 x3 ∧ (x3 > 0 → Q (.inl (some (iv (B 102 7)))) B) ∧ (x3 ≤ 0 → R32 (B 102 5) ∧ (B 102 5 = 0 → Q (.inl (some (iv (B 102 7)))) B) ∧ (¬ B 102 5 = 0 → ob 1 ((B 102 4).toNat) ∧ R32 (B 102 7) ∧ R32 (B ((B 102 4).toNat) 1) ∧ (¬ B 102 7 = B ((B 102 4).toNat) 1 → c_Wa_walk_84 h1 d x3 x4 x5 0 B Q) ∧ (B 102 7 = B ((B 102 4).toNat) 1 → Q (.inl (some (iv (B 102 7)))) B)))))
theorem c_Wa_walk_27_ok {h1 : qH} {d : Nat} {x3 : Int} {x4 : Int} {x5 : Int} {B : qB} {Q : qO → qB → Prop} (hd : 1 ≤ d) (hS : SH B) (w : c_Wa_walk_27 h1 d x3 x4 x5 B Q) : qY h1 (d + 1) n_Wa_walk 27 [some (.ref 102), none, none, some (iv x3), some (iv x4), some (iv x5), none] [] B Q := by
  unfold c_Wa_walk_27 at w
  obtain ⟨p1, w⟩ := w
  refine y_ldk (ok := q_isI) (n := 5) (ck_at dt_Wa_walk 15 rfl) rfl rfl (fun _ => rfl) rfl rfl ?_
  refine y_ldc (c := 1000000000) (ck_at dt_Wa_walk 16 rfl) own_Wa_walk (by decide +kernel) ?_
  refine y_icmp (t := 106) (ck_at dt_Wa_walk 17 rfl) rfl p1 ⟨by decide, by decide⟩ ?_ ?_
  · intro q; have w := w.1 q
    refine y_op (ck_at dt_Wa_walk 52 rfl) rfl (o_const _) ?_
    exact y_retI (ck_at dt_Wa_walk 53 rfl) rt_Wa_walk w
  · intro q; have w := w.2 q
    obtain ⟨p2, w⟩ := w
    refine y_ldk (ok := q_isA) (n := 0) (ck_at dt_Wa_walk 18 rfl) rfl rfl (fun _ => rfl) rfl rfl ?_
    refine y_getI (K := 9) (j := 6) (a := 102) (ck_at dt_Wa_walk 19 rfl) own_Wa_walk (cf_at 47 rfl) rfl rfl rfl ⟨(SH.o hS ⟨by decide, by decide, by decide⟩), ?_⟩
    refine y_ifz (t := 77) (ck_at dt_Wa_walk 20 rfl) rfl p2 ?_ ?_
    · intro q; have w := w.1 q
      refine y_ldk (ok := q_isA) (n := 0) (ck_at dt_Wa_walk 38 rfl) rfl rfl (fun _ => rfl) rfl rfl ?_
      refine y_ldk (ok := q_isI) (n := 3) (ck_at dt_Wa_walk 39 rfl) rfl rfl (fun _ => rfl) rfl rfl ?_
      refine y_virt (k' := n_Wa_advance) (n := 1) (as := [iv x3]) (r := []) (ck_at dt_Wa_walk 40 rfl) own_Wa_walk (cm_at 95 rfl) vk_Wa_advance rfl nl_Wa_advance rfl rfl rfl rfl ⟨(SH.o hS ⟨by decide, by decide, by decide⟩), ?_⟩
      exact w.mono (Nat.le_refl _) (fun o B' ⟨v, ho, hS', w⟩ => Or.inl ⟨some (iv v), ho, y_wk (c_Wa_walk_82_ok (by omega) hS' w) ⟨rfl, ⟨rfl, ⟨rfl, ⟨rfl, trivial⟩⟩⟩⟩⟩)
    · intro q; have w := w.2 q
      obtain ⟨p3, w⟩ := w
      refine y_ldk (ok := q_isI) (n := 3) (ck_at dt_Wa_walk 21 rfl) rfl rfl (fun _ => rfl) rfl rfl ?_
      refine y_ifz (t := 66) (ck_at dt_Wa_walk 22 rfl) rfl p3 ?_ ?_
      · intro q; have w := w.1 q
        refine y_ldk (ok := q_isA) (n := 0) (ck_at dt_Wa_walk 32 rfl) rfl rfl (fun _ => rfl) rfl rfl ?_
        refine y_getI (K := 9) (j := 7) (a := 102) (ck_at dt_Wa_walk 33 rfl) own_Wa_walk (cf_at 48 rfl) rfl rfl rfl ⟨(SH.o hS ⟨by decide, by decide, by decide⟩), ?_⟩
        exact y_retI (ck_at dt_Wa_walk 34 rfl) rt_Wa_walk w
      · intro q; have w := w.2 q
        obtain ⟨p4, w⟩ := w
        refine y_ldk (ok := q_isA) (n := 0) (ck_at dt_Wa_walk 23 rfl) rfl rfl (fun _ => rfl) rfl rfl ?_
        refine y_getI (K := 9) (j := 5) (a := 102) (ck_at dt_Wa_walk 24 rfl) own_Wa_walk (cf_at 46 rfl) rfl rfl rfl ⟨(SH.o hS ⟨by decide, by decide, by decide⟩), ?_⟩
        refine y_ifz (t := 66) (ck_at dt_Wa_walk 25 rfl) rfl p4 ?_ ?_
        · intro q; have w := w.1 q
          refine y_ldk (ok := q_isA) (n := 0) (ck_at dt_Wa_walk 32 rfl) rfl rfl (fun _ => rfl) rfl rfl ?_
          refine y_getI (K := 9) (j := 7) (a := 102) (ck_at dt_Wa_walk 33 rfl) own_Wa_walk (cf_at 48 rfl) rfl rfl rfl ⟨(SH.o hS ⟨by decide, by decide, by decide⟩), ?_⟩
          exact y_retI (ck_at dt_Wa_walk 34 rfl) rt_Wa_walk w
        · intro q; have w := w.2 q
          obtain ⟨p5, p6, p7, w⟩ := w
          refine y_ldk (ok := q_isA) (n := 0) (ck_at dt_Wa_walk 26 rfl) rfl rfl (fun _ => rfl) rfl rfl ?_
          refine y_getI (K := 9) (j := 7) (a := 102) (ck_at dt_Wa_walk 27 rfl) own_Wa_walk (cf_at 48 rfl) rfl rfl rfl ⟨(SH.o hS ⟨by decide, by decide, by decide⟩), ?_⟩
          refine y_ldk (ok := q_isA) (n := 0) (ck_at dt_Wa_walk 28 rfl) rfl rfl (fun _ => rfl) rfl rfl ?_
          refine y_getD (K := 9) (j := 4) (a := 102) (ck_at dt_Wa_walk 29 rfl) own_Wa_walk (cf_at 45 rfl) rfl rfl rfl ⟨(SH.o hS ⟨by decide, by decide, by decide⟩), ?_⟩
          refine y_virtP (k' := n_By_size) (n := 0) (as := []) (r := [iv (B 102 7)]) (ck_at dt_Wa_walk 30 rfl) own_Wa_walk (cm_at 86 rfl) vk_By_size rfl nl_By_size rfl rfl rfl rfl (SH.o hS p5) (Y_By_size (by omega) hS p5 ⟨rfl, rfl⟩) ?_
          refine y_icmp (t := 71) (ck_at dt_Wa_walk 31 rfl) rfl p6 p7 ?_ ?_
          · intro q; have w := w.1 q
            refine y_op (ck_at dt_Wa_walk 35 rfl) rfl (o_const _) ?_
            refine y_st1 (ok := q_isI) (n := 6) (L' := [some (.ref 102), none, none, some (iv x3), some (iv x4), some (iv x5), some (iv 0)]) (ck_at dt_Wa_walk 36 rfl) rfl (fun _ => rfl) (fun _ _ => rfl) rfl nl_Wa_walk (by decide) rfl rfl ?_
            refine y_goto (t := 84) (ck_at dt_Wa_walk 37 rfl) rfl ?_
            exact y_wk (c_Wa_walk_84_ok (by omega) hS w) ⟨rfl, ⟨rfl, ⟨rfl, ⟨rfl, ⟨rfl, trivial⟩⟩⟩⟩⟩
          · intro q; have w := w.2 q
            refine y_ldk (ok := q_isA) (n := 0) (ck_at dt_Wa_walk 32 rfl) rfl rfl (fun _ => rfl) rfl rfl ?_
            refine y_getI (K := 9) (j := 7) (a := 102) (ck_at dt_Wa_walk 33 rfl) own_Wa_walk (cf_at 48 rfl) rfl rfl rfl ⟨(SH.o hS ⟨by decide, by decide, by decide⟩), ?_⟩
            exact y_retI (ck_at dt_Wa_walk 34 rfl) rt_Wa_walk w
def c_Wa_walk_0 (h1 : qH) (d : Nat) (x1 : Int) (x2 : Int) (x3 : Int) (B : qB) (Q : qO → qB → Prop) : Prop := qY h1 (d + 1) n_Wa_walk 27 [some (.ref 102), none, none, some (iv x3), some (iv (B 103 1)), some (iv 0), none] [] (u2 (u2 (u2 B 102 6 x1) 102 7 x2) 102 8 0) Q
theorem c_Wa_walk_0_ok {h1 : qH} {d : Nat} {x1 : Int} {x2 : Int} {x3 : Int} {B : qB} {Q : qO → qB → Prop} (hd : 1 ≤ d) (hS : SH B) (w : c_Wa_walk_0 h1 d x1 x2 x3 B Q) : qY h1 (d + 1) n_Wa_walk 0 [some (.ref 102), some (iv x1), some (iv x2), some (iv x3), none, none, none] [] B Q := by
  unfold c_Wa_walk_0 at w
  refine y_ldk (ok := q_isA) (n := 0) (ck_at dt_Wa_walk 0 rfl) rfl rfl (fun _ => rfl) rfl rfl ?_
  refine y_getF (r := 103) (K := 9) (j := 0) (a := 102) (ck_at dt_Wa_walk 1 rfl) own_Wa_walk (cf_at 41 rfl) rfl rfl ⟨(SH.o hS ⟨by decide, by decide, by decide⟩), ?_⟩
  refine y_virtP (k' := n_Pi_size) (n := 0) (as := []) (r := []) (ck_at dt_Wa_walk 2 rfl) own_Wa_walk (cm_at 94 rfl) vk_Pi_size rfl nl_Pi_size rfl rfl rfl rfl (SH.o hS ⟨by decide, by decide, by decide⟩) (Y_Pi_size (by omega) hS ⟨rfl, rfl⟩) ?_
  refine y_st1 (ok := q_isI) (n := 4) (L' := [some (.ref 102), some (iv x1), some (iv x2), some (iv x3), some (iv (B 103 1)), none, none]) (ck_at dt_Wa_walk 3 rfl) rfl (fun _ => rfl) (fun _ _ => rfl) rfl nl_Wa_walk (by decide) rfl rfl ?_
  refine y_ldk (ok := q_isA) (n := 0) (ck_at dt_Wa_walk 4 rfl) rfl rfl (fun _ => rfl) rfl rfl ?_
  refine y_ldk (ok := q_isI) (n := 1) (ck_at dt_Wa_walk 5 rfl) rfl rfl (fun _ => rfl) rfl rfl ?_
  refine y_putI (K := 9) (j := 6) (a := 102) (ck_at dt_Wa_walk 6 rfl) own_Wa_walk (cf_at 47 rfl) rfl rfl rfl rfl rfl ⟨⟨SH.o hS ⟨by decide, by decide, by decide⟩, by decide⟩, ?_⟩
  have hS1 := SH_u2 (b := 102) (x := 6) (z := x1) hS (by decide)
  refine y_ldk (ok := q_isA) (n := 0) (ck_at dt_Wa_walk 7 rfl) rfl rfl (fun _ => rfl) rfl rfl ?_
  refine y_ldk (ok := q_isI) (n := 2) (ck_at dt_Wa_walk 8 rfl) rfl rfl (fun _ => rfl) rfl rfl ?_
  refine y_putI (K := 9) (j := 7) (a := 102) (ck_at dt_Wa_walk 9 rfl) own_Wa_walk (cf_at 48 rfl) rfl rfl rfl rfl rfl ⟨⟨SH.o hS1 ⟨by decide, by decide, by decide⟩, by decide⟩, ?_⟩
  have hS2 := SH_u2 (b := 102) (x := 7) (z := x2) hS1 (by decide)
  refine y_ldk (ok := q_isA) (n := 0) (ck_at dt_Wa_walk 10 rfl) rfl rfl (fun _ => rfl) rfl rfl ?_
  refine y_op (ck_at dt_Wa_walk 11 rfl) rfl (o_const _) ?_
  refine y_putI (K := 9) (j := 8) (a := 102) (ck_at dt_Wa_walk 12 rfl) own_Wa_walk (cf_at 49 rfl) rfl rfl rfl rfl rfl ⟨⟨SH.o hS2 ⟨by decide, by decide, by decide⟩, by decide⟩, ?_⟩
  have hS3 := SH_u2 (b := 102) (x := 8) (z := 0) hS2 (by decide)
  refine y_op (ck_at dt_Wa_walk 13 rfl) rfl (o_const _) ?_
  refine y_st1 (ok := q_isI) (n := 5) (L' := [some (.ref 102), some (iv x1), some (iv x2), some (iv x3), some (iv (B 103 1)), some (iv 0), none]) (ck_at dt_Wa_walk 14 rfl) rfl (fun _ => rfl) (fun _ _ => rfl) rfl nl_Wa_walk (by decide) rfl rfl ?_
  exact y_wk w ⟨rfl, ⟨rfl, ⟨rfl, ⟨rfl, trivial⟩⟩⟩⟩
/-! PatternTrier$Walker.tryPlaces(II)Z -/
def t_Wa_tryPlaces : List (Nat × Instr × Nat) := [(0, .aload_n 0, 1), (1, .getfield 25, 3), (4, .iconst (-1), 1), (5, .invokestatic 56, 3), (8, .iload_n 1, 1), (9, .istore_n 3, 1), (10, .iload_n 3, 1), (11, .iload_n 2, 1), (12, .if_icmp .gt 58, 3), (15, .aload_n 0, 1), (16, .getfield 12, 3), (19, .invokevirtual 62, 3), (22, .aload_n 0, 1), (23, .aload_n 0, 1), (24, .getfield 29, 3), (27, .invokevirtual 64, 3), (30, .iload_n 3, 1), (31, .iconst 0, 1), (32, .invokevirtual 67, 3), (35, .istore 4, 2), (37, .iload 4, 2), (39, .iconst (-1), 1), (40, .if_icmp .eq 24, 3), (43, .aload_n 0, 1), (44, .getfield 25, 3), (47, .iconst 0, 1), (48, .iload_n 3, 1), (49, .invokestatic 71, 3), (52, .aload_n 0, 1), (53, .getfield 25, 3), (56, .iconst 1, 1), (57, .iload 4, 2), (59, .invokestatic 71, 3), (62, .iconst 1, 1), (63, .ireturn, 1), (64, .iinc 3 1, 3), (67, .goto (-57), 3), (70, .iconst 0, 1), (71, .ireturn, 1)]
set_option maxRecDepth 100000 in
theorem dt_Wa_tryPlaces : q_ck n_Wa_tryPlaces t_Wa_tryPlaces = true := by decide +kernel
def c_Wa_tryPlaces_35 (h1 : qH) (d : Nat) (x2 : Int) (x3 : Int) (s0 : Int) (B : qB) (Q : qO → qB → Prop) : Prop := R32 s0 ∧ (s0 = (-1) → qY h1 (d + 1) n_Wa_tryPlaces 10 [some (.ref 102), none, some (iv x2), some (iv (x3 + 1)), none] [] B Q) ∧ (¬ s0 = (-1) → Q (.inl (some (iv 1))) (u2 (u2 B 107 0 x3) 107 1 s0))
theorem c_Wa_tryPlaces_35_ok {h1 : qH} {d : Nat} {x2 : Int} {x3 : Int} {s0 : Int} {B : qB} {Q : qO → qB → Prop} (hd : 1 ≤ d) (hS : SH B) (w : c_Wa_tryPlaces_35 h1 d x2 x3 s0 B Q) : qY h1 (d + 1) n_Wa_tryPlaces 35 [some (.ref 102), none, some (iv x2), some (iv x3), none] [iv s0] B Q := by
  unfold c_Wa_tryPlaces_35 at w
  obtain ⟨p1, w⟩ := w
  refine y_st1 (ok := q_isI) (n := 4) (L' := [some (.ref 102), none, some (iv x2), some (iv x3), some (iv s0)]) (ck_at dt_Wa_tryPlaces 19 rfl) rfl (fun _ => rfl) (fun _ _ => rfl) rfl nl_Wa_tryPlaces (by decide) rfl rfl ?_
  refine y_ldk (ok := q_isI) (n := 4) (ck_at dt_Wa_tryPlaces 20 rfl) rfl rfl (fun _ => rfl) rfl rfl ?_
  refine y_op (ck_at dt_Wa_tryPlaces 21 rfl) rfl (o_const _) ?_
  refine y_icmp (t := 64) (ck_at dt_Wa_tryPlaces 22 rfl) rfl p1 ⟨by decide, by decide⟩ ?_ ?_
  · intro q; have w := w.1 q
    refine y_iinc (n := 3) (L' := [some (.ref 102), none, some (iv x2), some (iv (x3 + 1)), some (iv s0)]) (ck_at dt_Wa_tryPlaces 35 rfl) rfl nl_Wa_tryPlaces (by decide) rfl rfl ?_
    refine y_goto (t := 10) (ck_at dt_Wa_tryPlaces 36 rfl) rfl ?_
    exact y_wk w ⟨rfl, ⟨rfl, ⟨rfl, trivial⟩⟩⟩
  · intro q; have w := w.2 q
    refine y_ldk (ok := q_isA) (n := 0) (ck_at dt_Wa_tryPlaces 23 rfl) rfl rfl (fun _ => rfl) rfl rfl ?_
    refine y_getF (r := 107) (K := 9) (j := 2) (a := 102) (ck_at dt_Wa_tryPlaces 24 rfl) own_Wa_tryPlaces (cf_at 43 rfl) rfl rfl ⟨(SH.o hS ⟨by decide, by decide, by decide⟩), ?_⟩
    refine y_op (ck_at dt_Wa_tryPlaces 25 rfl) rfl (o_const _) ?_
    refine y_ldk (ok := q_isI) (n := 3) (ck_at dt_Wa_tryPlaces 26 rfl) rfl rfl (fun _ => rfl) rfl rfl ?_
    refine y_stat3V (k' := n_P_put) (n := 0) (as := [.ref 107, iv 0, iv x3]) (r := []) (ck_at dt_Wa_tryPlaces 27 rfl) own_Wa_tryPlaces (cm_at 92 rfl) (cs_at 21 rfl) vk_P_put rfl nl_P_put rfl rfl rfl rfl  (Y_P_put (by omega) hS (SH.a (t := 1) (a := 107) (n := 20) hS ⟨by decide, by decide, by decide, by decide⟩) (by decide) (by decide) (by decide) (by decide) ⟨rfl, rfl⟩) ?_
    have hS2 := SH_u2 (b := 107) (x := 0) (z := x3) hS (by decide)
    refine y_ldk (ok := q_isA) (n := 0) (ck_at dt_Wa_tryPlaces 28 rfl) rfl rfl (fun _ => rfl) rfl rfl ?_
    refine y_getF (r := 107) (K := 9) (j := 2) (a := 102) (ck_at dt_Wa_tryPlaces 29 rfl) own_Wa_tryPlaces (cf_at 43 rfl) rfl rfl ⟨(SH.o hS2 ⟨by decide, by decide, by decide⟩), ?_⟩
    refine y_op (ck_at dt_Wa_tryPlaces 30 rfl) rfl (o_const _) ?_
    refine y_ldk (ok := q_isI) (n := 4) (ck_at dt_Wa_tryPlaces 31 rfl) rfl rfl (fun _ => rfl) rfl rfl ?_
    refine y_stat3V (k' := n_P_put) (n := 0) (as := [.ref 107, iv 1, iv s0]) (r := []) (ck_at dt_Wa_tryPlaces 32 rfl) own_Wa_tryPlaces (cm_at 92 rfl) (cs_at 21 rfl) vk_P_put rfl nl_P_put rfl rfl rfl rfl  (Y_P_put (by omega) hS2 (SH.a (t := 1) (a := 107) (n := 20) hS2 ⟨by decide, by decide, by decide, by decide⟩) (by decide) (by decide) (by decide) (by decide) ⟨rfl, rfl⟩) ?_
    have hS3 := SH_u2 (b := 107) (x := 1) (z := s0) hS2 (by decide)
    refine y_op (ck_at dt_Wa_tryPlaces 33 rfl) rfl (o_const _) ?_
    exact y_retZ (ck_at dt_Wa_tryPlaces 34 rfl) rt_Wa_tryPlaces (by decide) w
def c_Wa_tryPlaces_10 (h1 : qH) (d : Nat) (x2 : Int) (x3 : Int) (B : qB) (Q : qO → qB → Prop) : Prop := R32 x3 ∧ R32 x2 ∧ (x3 > x2 → Q (.inl (some (iv 0))) B) ∧ (x3 ≤ x2 → ob 5 ((B 102 3).toNat) ∧ qY h1 d n_Wa_walk 0 [some (.ref 102), some (iv ((u2 B 103 1 0) ((B 102 3).toNat) 9)), some (iv x3), some (iv 0), none, none, none] [] (u2 B 103 1 0) (fun o B' => ∃ v : Int, o = .inl (some (iv v)) ∧ SH B' ∧ c_Wa_tryPlaces_35 h1 d x2 x3 v B' Q))
theorem c_Wa_tryPlaces_10_ok {h1 : qH} {d : Nat} {x2 : Int} {x3 : Int} {B : qB} {Q : qO → qB → Prop} (hd : 1 ≤ d) (hS : SH B) (w : c_Wa_tryPlaces_10 h1 d x2 x3 B Q) : qY h1 (d + 1) n_Wa_tryPlaces 10 [some (.ref 102), none, some (iv x2), some (iv x3), none] [] B Q := by
  unfold c_Wa_tryPlaces_10 at w
  obtain ⟨p1, p2, w⟩ := w
  refine y_ldk (ok := q_isI) (n := 3) (ck_at dt_Wa_tryPlaces 6 rfl) rfl rfl (fun _ => rfl) rfl rfl ?_
  refine y_ldk (ok := q_isI) (n := 2) (ck_at dt_Wa_tryPlaces 7 rfl) rfl rfl (fun _ => rfl) rfl rfl ?_
  refine y_icmp (t := 70) (ck_at dt_Wa_tryPlaces 8 rfl) rfl p1 p2 ?_ ?_
  · intro q; have w := w.1 q
    refine y_op (ck_at dt_Wa_tryPlaces 37 rfl) rfl (o_const _) ?_
    exact y_retZ (ck_at dt_Wa_tryPlaces 38 rfl) rt_Wa_tryPlaces (by decide) w
  · intro q; have w := w.2 q
    obtain ⟨p4, w⟩ := w
    refine y_ldk (ok := q_isA) (n := 0) (ck_at dt_Wa_tryPlaces 9 rfl) rfl rfl (fun _ => rfl) rfl rfl ?_
    refine y_getF (r := 103) (K := 9) (j := 0) (a := 102) (ck_at dt_Wa_tryPlaces 10 rfl) own_Wa_tryPlaces (cf_at 41 rfl) rfl rfl ⟨(SH.o hS ⟨by decide, by decide, by decide⟩), ?_⟩
    refine y_virtV (k' := n_Pi_clear) (n := 0) (as := []) (r := []) (ck_at dt_Wa_tryPlaces 11 rfl) own_Wa_tryPlaces (cm_at 89 rfl) vk_Pi_clear rfl nl_Pi_clear rfl rfl rfl rfl (SH.o hS ⟨by decide, by decide, by decide⟩) (Y_Pi_clear (by omega) hS ⟨rfl, rfl⟩) ?_
    have hS3 := SH_u2 (b := 103) (x := 1) (z := 0) hS (by decide)
    refine y_ldk (ok := q_isA) (n := 0) (ck_at dt_Wa_tryPlaces 12 rfl) rfl rfl (fun _ => rfl) rfl rfl ?_
    refine y_ldk (ok := q_isA) (n := 0) (ck_at dt_Wa_tryPlaces 13 rfl) rfl rfl (fun _ => rfl) rfl rfl ?_
    refine y_getD (K := 9) (j := 3) (a := 102) (ck_at dt_Wa_tryPlaces 14 rfl) own_Wa_tryPlaces (cf_at 44 rfl) rfl rfl rfl ⟨(SH.o hS3 ⟨by decide, by decide, by decide⟩), ?_⟩
    refine y_virtP (k' := n_Pr_entry) (n := 0) (as := []) (r := [.ref 102]) (ck_at dt_Wa_tryPlaces 15 rfl) own_Wa_tryPlaces (cm_at 90 rfl) vk_Pr_entry rfl nl_Pr_entry rfl rfl rfl rfl (SH.o hS3 p4) (Y_Pr_entry (by omega) hS3 p4 ⟨rfl, rfl⟩) ?_
    refine y_ldk (ok := q_isI) (n := 3) (ck_at dt_Wa_tryPlaces 16 rfl) rfl rfl (fun _ => rfl) rfl rfl ?_
    refine y_op (ck_at dt_Wa_tryPlaces 17 rfl) rfl (o_const _) ?_
    refine y_virt (k' := n_Wa_walk) (n := 3) (as := [iv ((u2 B 103 1 0) ((B 102 3).toNat) 9), iv x3, iv 0]) (r := []) (ck_at dt_Wa_tryPlaces 18 rfl) own_Wa_tryPlaces (cm_at 91 rfl) vk_Wa_walk rfl nl_Wa_walk rfl rfl rfl rfl ⟨(SH.o hS3 ⟨by decide, by decide, by decide⟩), ?_⟩
    exact w.mono (Nat.le_refl _) (fun o B' ⟨v, ho, hS', w⟩ => Or.inl ⟨some (iv v), ho, y_wk (c_Wa_tryPlaces_35_ok (by omega) hS' w) ⟨rfl, ⟨rfl, ⟨rfl, trivial⟩⟩⟩⟩)
def c_Wa_tryPlaces_8 (h1 : qH) (d : Nat) (x1 : Int) (x2 : Int) (B : qB) (Q : qO → qB → Prop) : Prop := qY h1 (d + 1) n_Wa_tryPlaces 10 [some (.ref 102), none, some (iv x2), some (iv x1), none] [] B Q
theorem c_Wa_tryPlaces_8_ok {h1 : qH} {d : Nat} {x1 : Int} {x2 : Int} {B : qB} {Q : qO → qB → Prop} (hd : 1 ≤ d) (hS : SH B) (w : c_Wa_tryPlaces_8 h1 d x1 x2 B Q) : qY h1 (d + 1) n_Wa_tryPlaces 8 [some (.ref 102), some (iv x1), some (iv x2), none, none] [] B Q := by
  unfold c_Wa_tryPlaces_8 at w
  refine y_ldk (ok := q_isI) (n := 1) (ck_at dt_Wa_tryPlaces 4 rfl) rfl rfl (fun _ => rfl) rfl rfl ?_
  refine y_st1 (ok := q_isI) (n := 3) (L' := [some (.ref 102), some (iv x1), some (iv x2), some (iv x1), none]) (ck_at dt_Wa_tryPlaces 5 rfl) rfl (fun _ => rfl) (fun _ _ => rfl) rfl nl_Wa_tryPlaces (by decide) rfl rfl ?_
  exact y_wk w ⟨rfl, ⟨rfl, ⟨rfl, trivial⟩⟩⟩
def c_Wa_tryPlaces_0 (h1 : qH) (d : Nat) (x1 : Int) (x2 : Int) (B : qB) (Q : qO → qB → Prop) : Prop := qY h1 d n_Ar_fill_AIIV 0 [some (.ref 107), some (iv (-1)), none, none] [] B (fun o B' => o = .inl none ∧ SH B' ∧ c_Wa_tryPlaces_8 h1 d x1 x2 B' Q)
theorem c_Wa_tryPlaces_0_ok {h1 : qH} {d : Nat} {x1 : Int} {x2 : Int} {B : qB} {Q : qO → qB → Prop} (hd : 1 ≤ d) (hS : SH B) (w : c_Wa_tryPlaces_0 h1 d x1 x2 B Q) : qY h1 (d + 1) n_Wa_tryPlaces 0 [some (.ref 102), some (iv x1), some (iv x2), none, none] [] B Q := by
  unfold c_Wa_tryPlaces_0 at w
  refine y_ldk (ok := q_isA) (n := 0) (ck_at dt_Wa_tryPlaces 0 rfl) rfl rfl (fun _ => rfl) rfl rfl ?_
  refine y_getF (r := 107) (K := 9) (j := 2) (a := 102) (ck_at dt_Wa_tryPlaces 1 rfl) own_Wa_tryPlaces (cf_at 43 rfl) rfl rfl ⟨(SH.o hS ⟨by decide, by decide, by decide⟩), ?_⟩
  refine y_op (ck_at dt_Wa_tryPlaces 2 rfl) rfl (o_const _) ?_
  refine y_stat (k' := n_Ar_fill_AIIV) (n := 2) (as := [.ref 107, iv (-1)]) (r := []) (ck_at dt_Wa_tryPlaces 3 rfl) own_Wa_tryPlaces (cm_at 88 rfl) (cs_at 20 rfl) vk_Ar_fill_AIIV rfl nl_Ar_fill_AIIV rfl rfl rfl rfl ?_
  exact w.mono (Nat.le_refl _) (fun o B' ⟨ho, hS', w⟩ => Or.inl ⟨none, ho, y_wk (c_Wa_tryPlaces_8_ok (by omega) hS' w) ⟨rfl, ⟨rfl, ⟨rfl, trivial⟩⟩⟩⟩)
/-! PatternTrier$Walker.prepare(LPatternTrier$Program;LPatternTrier$Bytes;Z)V -/
def t_Wa_prepare : List (Nat × Instr × Nat) := [(0, .aload_n 0, 1), (1, .aload_n 1, 1), (2, .putfield 29, 3), (5, .aload_n 0, 1), (6, .aload_n 2, 1), (7, .putfield 33, 3), (10, .aload_n 0, 1), (11, .iload_n 3, 1), (12, .putfield 37, 3), (15, .aload_n 0, 1), (16, .getfield 21, 3), (19, .aload_n 0, 1), (20, .getfield 29, 3), (23, .invokevirtual 41, 3), (26, .aload_n 0, 1), (27, .getfield 33, 3), (30, .invokevirtual 47, 3), (33, .iconst 1, 1), (34, .iadd, 1), (35, .imul, 1), (36, .invokevirtual 52, 3), (39, .return_, 1)]
set_option maxRecDepth 100000 in
theorem dt_Wa_prepare : q_ck n_Wa_prepare t_Wa_prepare = true := by decide +kernel
def c_Wa_prepare_39 (h1 : qH) (d : Nat) (B : qB) (Q : qO → qB → Prop) : Prop := Q (.inl none) B
theorem c_Wa_prepare_39_ok {h1 : qH} {d : Nat} {B : qB} {Q : qO → qB → Prop} (hd : 1 ≤ d) (hS : SH B) (w : c_Wa_prepare_39 h1 d B Q) : qY h1 (d + 1) n_Wa_prepare 39 [none, none, none, none] [] B Q := by
  unfold c_Wa_prepare_39 at w
  exact y_ret0 (ck_at dt_Wa_prepare 21 rfl) rt_Wa_prepare w
def c_Wa_prepare_0 (h1 : qH) (d : Nat) (a1 : Nat) (a2 : Nat) (x3 : Int) (B : qB) (Q : qO → qB → Prop) : Prop := (x3 = 0 ∨ x3 = 1) ∧ ob 5 ((((a1 : Nat) : Int)).toNat) ∧ ob 1 ((((a2 : Nat) : Int)).toNat) ∧ qY h1 d n_Fl_clear 0 [some (.ref 105), some (iv (((u2 (u2 (u2 B 102 3 ((a1 : Nat) : Int)) 102 4 ((a2 : Nat) : Int)) 102 5 x3) ((((a1 : Nat) : Int)).toNat) 8) * (((u2 (u2 (u2 B 102 3 ((a1 : Nat) : Int)) 102 4 ((a2 : Nat) : Int)) 102 5 x3) ((((a2 : Nat) : Int)).toNat) 1) + 1))), none, none, none] [] (u2 (u2 (u2 B 102 3 ((a1 : Nat) : Int)) 102 4 ((a2 : Nat) : Int)) 102 5 x3) (fun o B' => o = .inl none ∧ SH B' ∧ c_Wa_prepare_39 h1 d B' Q)
theorem c_Wa_prepare_0_ok {h1 : qH} {d : Nat} {a1 : Nat} {a2 : Nat} {x3 : Int} {B : qB} {Q : qO → qB → Prop} (hd : 1 ≤ d) (hS : SH B) (ha1 : ob 5 a1) (ha2 : ob 1 a2) (w : c_Wa_prepare_0 h1 d a1 a2 x3 B Q) : qY h1 (d + 1) n_Wa_prepare 0 [some (.ref 102), some (.ref a1), some (.ref a2), some (iv x3)] [] B Q := by
  unfold c_Wa_prepare_0 at w
  obtain ⟨p3, p5, p6, w⟩ := w
  refine y_ldk (ok := q_isA) (n := 0) (ck_at dt_Wa_prepare 0 rfl) rfl rfl (fun _ => rfl) rfl rfl ?_
  refine y_ldk (ok := q_isA) (n := 1) (ck_at dt_Wa_prepare 1 rfl) rfl rfl (fun _ => rfl) rfl rfl ?_
  refine y_putR (K := 9) (j := 3) (a := 102) (ck_at dt_Wa_prepare 2 rfl) own_Wa_prepare (cf_at 44 rfl) rfl rfl rfl rfl rfl rfl ⟨⟨SH.o hS ⟨by decide, by decide, by decide⟩, by decide⟩, ?_⟩
  have hS1 := SH_u2 (b := 102) (x := 3) (z := ((a1 : Nat) : Int)) hS (by decide)
  refine y_ldk (ok := q_isA) (n := 0) (ck_at dt_Wa_prepare 3 rfl) rfl rfl (fun _ => rfl) rfl rfl ?_
  refine y_ldk (ok := q_isA) (n := 2) (ck_at dt_Wa_prepare 4 rfl) rfl rfl (fun _ => rfl) rfl rfl ?_
  refine y_putR (K := 9) (j := 4) (a := 102) (ck_at dt_Wa_prepare 5 rfl) own_Wa_prepare (cf_at 45 rfl) rfl rfl rfl rfl rfl rfl ⟨⟨SH.o hS1 ⟨by decide, by decide, by decide⟩, by decide⟩, ?_⟩
  have hS2 := SH_u2 (b := 102) (x := 4) (z := ((a2 : Nat) : Int)) hS1 (by decide)
  refine y_ldk (ok := q_isA) (n := 0) (ck_at dt_Wa_prepare 6 rfl) rfl rfl (fun _ => rfl) rfl rfl ?_
  refine y_ldk (ok := q_isI) (n := 3) (ck_at dt_Wa_prepare 7 rfl) rfl rfl (fun _ => rfl) rfl rfl ?_
  refine y_putZ (K := 9) (j := 5) (a := 102) (ck_at dt_Wa_prepare 8 rfl) own_Wa_prepare (cf_at 46 rfl) rfl rfl rfl rfl rfl ⟨p3, ⟨SH.o hS2 ⟨by decide, by decide, by decide⟩, by decide⟩, ?_⟩
  have hS4 := SH_u2 (b := 102) (x := 5) (z := x3) hS2 (by decide)
  refine y_ldk (ok := q_isA) (n := 0) (ck_at dt_Wa_prepare 9 rfl) rfl rfl (fun _ => rfl) rfl rfl ?_
  refine y_getF (r := 105) (K := 9) (j := 1) (a := 102) (ck_at dt_Wa_prepare 10 rfl) own_Wa_prepare (cf_at 42 rfl) rfl rfl ⟨(SH.o hS4 ⟨by decide, by decide, by decide⟩), ?_⟩
  refine y_ldk (ok := q_isA) (n := 0) (ck_at dt_Wa_prepare 11 rfl) rfl rfl (fun _ => rfl) rfl rfl ?_
  refine y_getD (K := 9) (j := 3) (a := 102) (ck_at dt_Wa_prepare 12 rfl) own_Wa_prepare (cf_at 44 rfl) rfl rfl rfl ⟨(SH.o hS4 ⟨by decide, by decide, by decide⟩), ?_⟩
  refine y_virtP (k' := n_Pr_slots) (n := 0) (as := []) (r := [.ref 105]) (ck_at dt_Wa_prepare 13 rfl) own_Wa_prepare (cm_at 85 rfl) vk_Pr_slots rfl nl_Pr_slots rfl rfl rfl rfl (SH.o hS4 p5) (Y_Pr_slots (by omega) hS4 p5 ⟨rfl, rfl⟩) ?_
  refine y_ldk (ok := q_isA) (n := 0) (ck_at dt_Wa_prepare 14 rfl) rfl rfl (fun _ => rfl) rfl rfl ?_
  refine y_getD (K := 9) (j := 4) (a := 102) (ck_at dt_Wa_prepare 15 rfl) own_Wa_prepare (cf_at 45 rfl) rfl rfl rfl ⟨(SH.o hS4 ⟨by decide, by decide, by decide⟩), ?_⟩
  refine y_virtP (k' := n_By_size) (n := 0) (as := []) (r := [iv ((u2 (u2 (u2 B 102 3 ((a1 : Nat) : Int)) 102 4 ((a2 : Nat) : Int)) 102 5 x3) ((((a1 : Nat) : Int)).toNat) 8), .ref 105]) (ck_at dt_Wa_prepare 16 rfl) own_Wa_prepare (cm_at 86 rfl) vk_By_size rfl nl_By_size rfl rfl rfl rfl (SH.o hS4 p6) (Y_By_size (by omega) hS4 p6 ⟨rfl, rfl⟩) ?_
  refine y_op (ck_at dt_Wa_prepare 17 rfl) rfl (o_const _) ?_
  refine y_op (ck_at dt_Wa_prepare 18 rfl) rfl o_iadd ?_
  refine y_op (ck_at dt_Wa_prepare 19 rfl) rfl o_imul ?_
  refine y_virt (k' := n_Fl_clear) (n := 3) (as := [iv (((u2 (u2 (u2 B 102 3 ((a1 : Nat) : Int)) 102 4 ((a2 : Nat) : Int)) 102 5 x3) ((((a1 : Nat) : Int)).toNat) 8) * (((u2 (u2 (u2 B 102 3 ((a1 : Nat) : Int)) 102 4 ((a2 : Nat) : Int)) 102 5 x3) ((((a2 : Nat) : Int)).toNat) 1) + 1))]) (r := []) (ck_at dt_Wa_prepare 20 rfl) own_Wa_prepare (cm_at 87 rfl) vk_Fl_clear rfl nl_Fl_clear rfl rfl rfl rfl ⟨(SH.o hS4 ⟨by decide, by decide, by decide⟩), ?_⟩
  exact w.mono (Nat.le_refl _) (fun o B' ⟨ho, hS', w⟩ => Or.inl ⟨none, ho, y_wk (c_Wa_prepare_39_ok (by omega) hS' w) trivial⟩)
