/-! PatternTrier$Reader.see(I)I -/
def t_Re_see : List (Nat × Instr × Nat) := [(0, .aload_n 0, 1), (1, .getfield 28, 3), (4, .iload_n 1, 1), (5, .iadd, 1), (6, .istore_n 2, 1), (7, .iload_n 2, 1), (8, .aload_n 0, 1), (9, .getfield 15, 3), (12, .invokevirtual 54, 3), (15, .if_icmp .lt 5, 3), (18, .iconst (-1), 1), (19, .ireturn, 1), (20, .aload_n 0, 1), (21, .getfield 15, 3), (24, .iload_n 2, 1), (25, .invokevirtual 60, 3), (28, .istore_n 3, 1), (29, .iload_n 2, 1), (30, .sipush 200, 3), (33, .if_icmp .ge 15, 3), (36, .iload_n 3, 1), (37, .bipush 32, 2), (39, .if_icmp .lt 9, 3), (42, .iload_n 3, 1), (43, .bipush 126, 2), (45, .if_icmp .le 8, 3), (48, .bipush (-2), 2), (50, .goto 4, 3), (53, .iload_n 3, 1), (54, .ireturn, 1)]
set_option maxRecDepth 100000 in
theorem dt_Re_see : q_ck n_Re_see t_Re_see = true := by decide +kernel
def c_Re_see_0 (h1 : qH) (d : Nat) (x1 : Int) (B : qB) (Q : qO → qB → Prop) : Prop := ob 1 ((B 100 1).toNat) ∧ R32 ((B 100 2) + x1) ∧ R32 (B ((B 100 1).toNat) 1) ∧ ((B 100 2) + x1 < B ((B 100 1).toNat) 1 → bOK B ((B 100 1).toNat) ∧ ((B 100 2) + x1 ≥ 200 → Q (.inl (some (iv (-2)))) B) ∧ ((B 100 2) + x1 < 200 → R32 (byA B ((B 100 1).toNat) ((B 100 2) + x1)) ∧ (byA B ((B 100 1).toNat) ((B 100 2) + x1) < 32 → Q (.inl (some (iv (-2)))) B) ∧ (byA B ((B 100 1).toNat) ((B 100 2) + x1) ≥ 32 → (byA B ((B 100 1).toNat) ((B 100 2) + x1) ≤ 126 → Q (.inl (some (iv (byA B ((B 100 1).toNat) ((B 100 2) + x1))))) B) ∧ (byA B ((B 100 1).toNat) ((B 100 2) + x1) > 126 → Q (.inl (some (iv (-2)))) B)))) ∧ ((B 100 2) + x1 ≥ B ((B 100 1).toNat) 1 → Q (.inl (some (iv (-1)))) B)
theorem c_Re_see_0_ok {h1 : qH} {d : Nat} {x1 : Int} {B : qB} {Q : qO → qB → Prop} (hd : 1 ≤ d) (hS : SH B) (w : c_Re_see_0 h1 d x1 B Q) : qY h1 (d + 1) n_Re_see 0 [some (.ref 100), some (iv x1), none, none] [] B Q := by
  unfold c_Re_see_0 at w
  obtain ⟨p1, p2, p3, w⟩ := w
  refine y_ldk (ok := q_isA) (n := 0) (ck_at dt_Re_see 0 rfl) rfl rfl (fun _ => rfl) rfl rfl ?_
  refine y_getI (K := 6) (j := 2) (a := 100) (ck_at dt_Re_see 1 rfl) own_Re_see (cf_at 25 rfl) rfl rfl rfl ⟨(SH.o hS ⟨by decide, by decide, by decide⟩), ?_⟩
  refine y_ldk (ok := q_isI) (n := 1) (ck_at dt_Re_see 2 rfl) rfl rfl (fun _ => rfl) rfl rfl ?_
  refine y_op (ck_at dt_Re_see 3 rfl) rfl o_iadd ?_
  refine y_st1 (ok := q_isI) (n := 2) (L' := [some (.ref 100), some (iv x1), some (iv ((B 100 2) + x1)), none]) (ck_at dt_Re_see 4 rfl) rfl (fun _ => rfl) (fun _ _ => rfl) rfl nl_Re_see (by decide) rfl rfl ?_
  refine y_ldk (ok := q_isI) (n := 2) (ck_at dt_Re_see 5 rfl) rfl rfl (fun _ => rfl) rfl rfl ?_
  refine y_ldk (ok := q_isA) (n := 0) (ck_at dt_Re_see 6 rfl) rfl rfl (fun _ => rfl) rfl rfl ?_
  refine y_getD (K := 6) (j := 1) (a := 100) (ck_at dt_Re_see 7 rfl) own_Re_see (cf_at 23 rfl) rfl rfl rfl ⟨(SH.o hS ⟨by decide, by decide, by decide⟩), ?_⟩
  refine y_virtP (k' := n_By_size) (n := 0) (as := []) (r := [iv ((B 100 2) + x1)]) (ck_at dt_Re_see 8 rfl) own_Re_see (cm_at 43 rfl) vk_By_size rfl nl_By_size rfl rfl rfl rfl (SH.o hS p1) (Y_By_size (by omega) hS p1 ⟨rfl, rfl⟩) ?_
  refine y_icmp (t := 20) (ck_at dt_Re_see 9 rfl) rfl p2 p3 ?_ ?_
  · intro q; have w := w.1 q
    obtain ⟨p4, w⟩ := w
    refine y_ldk (ok := q_isA) (n := 0) (ck_at dt_Re_see 12 rfl) rfl rfl (fun _ => rfl) rfl rfl ?_
    refine y_getD (K := 6) (j := 1) (a := 100) (ck_at dt_Re_see 13 rfl) own_Re_see (cf_at 23 rfl) rfl rfl rfl ⟨(SH.o hS ⟨by decide, by decide, by decide⟩), ?_⟩
    refine y_ldk (ok := q_isI) (n := 2) (ck_at dt_Re_see 14 rfl) rfl rfl (fun _ => rfl) rfl rfl ?_
    refine y_virtP (k' := n_By_at) (n := 0) (as := [iv ((B 100 2) + x1)]) (r := []) (ck_at dt_Re_see 15 rfl) own_Re_see (cm_at 44 rfl) vk_By_at rfl nl_By_at rfl rfl rfl rfl (SH.o hS p1) (Y_By_at (by omega) hS p1 p4 p2 ⟨rfl, rfl⟩) ?_
    refine y_st1 (ok := q_isI) (n := 3) (L' := [some (.ref 100), some (iv x1), some (iv ((B 100 2) + x1)), some (iv (byA B ((B 100 1).toNat) ((B 100 2) + x1)))]) (ck_at dt_Re_see 16 rfl) rfl (fun _ => rfl) (fun _ _ => rfl) rfl nl_Re_see (by decide) rfl rfl ?_
    refine y_ldk (ok := q_isI) (n := 2) (ck_at dt_Re_see 17 rfl) rfl rfl (fun _ => rfl) rfl rfl ?_
    refine y_op (ck_at dt_Re_see 18 rfl) rfl (o_sipush _ (by decide)) ?_
    refine y_icmp (t := 48) (ck_at dt_Re_see 19 rfl) rfl p2 ⟨by decide, by decide⟩ ?_ ?_
    · intro q; have w := w.1 q
      refine y_op (ck_at dt_Re_see 26 rfl) rfl (o_bipush _ (by decide)) ?_
      refine y_goto (t := 54) (ck_at dt_Re_see 27 rfl) rfl ?_
      exact y_retI (ck_at dt_Re_see 29 rfl) rt_Re_see w
    · intro q; have w := w.2 q
      obtain ⟨p5, w⟩ := w
      refine y_ldk (ok := q_isI) (n := 3) (ck_at dt_Re_see 20 rfl) rfl rfl (fun _ => rfl) rfl rfl ?_
      refine y_op (ck_at dt_Re_see 21 rfl) rfl (o_bipush _ (by decide)) ?_
      refine y_icmp (t := 48) (ck_at dt_Re_see 22 rfl) rfl p5 ⟨by decide, by decide⟩ ?_ ?_
      · intro q; have w := w.1 q
        refine y_op (ck_at dt_Re_see 26 rfl) rfl (o_bipush _ (by decide)) ?_
        refine y_goto (t := 54) (ck_at dt_Re_see 27 rfl) rfl ?_
        exact y_retI (ck_at dt_Re_see 29 rfl) rt_Re_see w
      · intro q; have w := w.2 q
        refine y_ldk (ok := q_isI) (n := 3) (ck_at dt_Re_see 23 rfl) rfl rfl (fun _ => rfl) rfl rfl ?_
        refine y_op (ck_at dt_Re_see 24 rfl) rfl (o_bipush _ (by decide)) ?_
        refine y_icmp (t := 53) (ck_at dt_Re_see 25 rfl) rfl p5 ⟨by decide, by decide⟩ ?_ ?_
        · intro q; have w := w.1 q
          refine y_ldk (ok := q_isI) (n := 3) (ck_at dt_Re_see 28 rfl) rfl rfl (fun _ => rfl) rfl rfl ?_
          exact y_retI (ck_at dt_Re_see 29 rfl) rt_Re_see w
        · intro q; have w := w.2 q
          refine y_op (ck_at dt_Re_see 26 rfl) rfl (o_bipush _ (by decide)) ?_
          refine y_goto (t := 54) (ck_at dt_Re_see 27 rfl) rfl ?_
          exact y_retI (ck_at dt_Re_see 29 rfl) rt_Re_see w
  · intro q; have w := w.2 q
    refine y_op (ck_at dt_Re_see 10 rfl) rfl (o_const _) ?_
    exact y_retI (ck_at dt_Re_see 11 rfl) rt_Re_see w
/-! PatternTrier$Tree.kindOf(I)I -/
def t_Tr_kindOf : List (Nat × Instr × Nat) := [(0, .aload_n 0, 1), (1, .getfield 11, 3), (4, .iload_n 1, 1), (5, .invokestatic 65, 3), (8, .ireturn, 1)]
set_option maxRecDepth 100000 in
theorem dt_Tr_kindOf : q_ck n_Tr_kindOf t_Tr_kindOf = true := by decide +kernel
def c_Tr_kindOf_0 (h1 : qH) (d : Nat) (x1 : Int) (B : qB) (Q : qO → qB → Prop) : Prop := 0 ≤ x1 ∧ x1 < 408 ∧ Q (.inl (some (iv (B 91 x1)))) B
theorem c_Tr_kindOf_0_ok {h1 : qH} {d : Nat} {x1 : Int} {B : qB} {Q : qO → qB → Prop} (hd : 1 ≤ d) (hS : SH B) (w : c_Tr_kindOf_0 h1 d x1 B Q) : qY h1 (d + 1) n_Tr_kindOf 0 [some (.ref 90), some (iv x1)] [] B Q := by
  unfold c_Tr_kindOf_0 at w
  obtain ⟨p1, p2, w⟩ := w
  refine y_ldk (ok := q_isA) (n := 0) (ck_at dt_Tr_kindOf 0 rfl) rfl rfl (fun _ => rfl) rfl rfl ?_
  refine y_getF (r := 91) (K := 8) (j := 0) (a := 90) (ck_at dt_Tr_kindOf 1 rfl) own_Tr_kindOf (cf_at 32 rfl) rfl rfl ⟨(SH.o hS ⟨by decide, by decide, by decide⟩), ?_⟩
  refine y_ldk (ok := q_isI) (n := 1) (ck_at dt_Tr_kindOf 2 rfl) rfl rfl (fun _ => rfl) rfl rfl ?_
  refine y_stat3P (k' := n_P_cell) (n := 0) (as := [.ref 91, iv x1]) (r := []) (ck_at dt_Tr_kindOf 3 rfl) own_Tr_kindOf (cm_at 80 rfl) (cs_at 19 rfl) vk_P_cell rfl nl_P_cell rfl rfl rfl rfl  (Y_P_cell (by omega) hS (SH.a (t := 1) (a := 91) (n := 408) hS ⟨by decide, by decide, by decide, by decide⟩) (by decide) p1 p2 ⟨rfl, rfl⟩) ?_
  exact y_retI (ck_at dt_Tr_kindOf 4 rfl) rt_Tr_kindOf w
/-! PatternTrier$Tree.valueOf(I)I -/
def t_Tr_valueOf : List (Nat × Instr × Nat) := [(0, .aload_n 0, 1), (1, .getfield 15, 3), (4, .iload_n 1, 1), (5, .invokestatic 65, 3), (8, .ireturn, 1)]
set_option maxRecDepth 100000 in
theorem dt_Tr_valueOf : q_ck n_Tr_valueOf t_Tr_valueOf = true := by decide +kernel
def c_Tr_valueOf_0 (h1 : qH) (d : Nat) (x1 : Int) (B : qB) (Q : qO → qB → Prop) : Prop := 0 ≤ x1 ∧ x1 < 408 ∧ Q (.inl (some (iv (B 92 x1)))) B
theorem c_Tr_valueOf_0_ok {h1 : qH} {d : Nat} {x1 : Int} {B : qB} {Q : qO → qB → Prop} (hd : 1 ≤ d) (hS : SH B) (w : c_Tr_valueOf_0 h1 d x1 B Q) : qY h1 (d + 1) n_Tr_valueOf 0 [some (.ref 90), some (iv x1)] [] B Q := by
  unfold c_Tr_valueOf_0 at w
  obtain ⟨p1, p2, w⟩ := w
  refine y_ldk (ok := q_isA) (n := 0) (ck_at dt_Tr_valueOf 0 rfl) rfl rfl (fun _ => rfl) rfl rfl ?_
  refine y_getF (r := 92) (K := 8) (j := 1) (a := 90) (ck_at dt_Tr_valueOf 1 rfl) own_Tr_valueOf (cf_at 33 rfl) rfl rfl ⟨(SH.o hS ⟨by decide, by decide, by decide⟩), ?_⟩
  refine y_ldk (ok := q_isI) (n := 1) (ck_at dt_Tr_valueOf 2 rfl) rfl rfl (fun _ => rfl) rfl rfl ?_
  refine y_stat3P (k' := n_P_cell) (n := 0) (as := [.ref 92, iv x1]) (r := []) (ck_at dt_Tr_valueOf 3 rfl) own_Tr_valueOf (cm_at 80 rfl) (cs_at 19 rfl) vk_P_cell rfl nl_P_cell rfl rfl rfl rfl  (Y_P_cell (by omega) hS (SH.a (t := 1) (a := 92) (n := 408) hS ⟨by decide, by decide, by decide, by decide⟩) (by decide) p1 p2 ⟨rfl, rfl⟩) ?_
  exact y_retI (ck_at dt_Tr_valueOf 4 rfl) rt_Tr_valueOf w
/-! PatternTrier$Tree.innerOf(I)I -/
def t_Tr_innerOf : List (Nat × Instr × Nat) := [(0, .aload_n 0, 1), (1, .getfield 18, 3), (4, .iload_n 1, 1), (5, .invokestatic 65, 3), (8, .ireturn, 1)]
set_option maxRecDepth 100000 in
theorem dt_Tr_innerOf : q_ck n_Tr_innerOf t_Tr_innerOf = true := by decide +kernel
def c_Tr_innerOf_0 (h1 : qH) (d : Nat) (x1 : Int) (B : qB) (Q : qO → qB → Prop) : Prop := 0 ≤ x1 ∧ x1 < 408 ∧ Q (.inl (some (iv (B 93 x1)))) B
theorem c_Tr_innerOf_0_ok {h1 : qH} {d : Nat} {x1 : Int} {B : qB} {Q : qO → qB → Prop} (hd : 1 ≤ d) (hS : SH B) (w : c_Tr_innerOf_0 h1 d x1 B Q) : qY h1 (d + 1) n_Tr_innerOf 0 [some (.ref 90), some (iv x1)] [] B Q := by
  unfold c_Tr_innerOf_0 at w
  obtain ⟨p1, p2, w⟩ := w
  refine y_ldk (ok := q_isA) (n := 0) (ck_at dt_Tr_innerOf 0 rfl) rfl rfl (fun _ => rfl) rfl rfl ?_
  refine y_getF (r := 93) (K := 8) (j := 2) (a := 90) (ck_at dt_Tr_innerOf 1 rfl) own_Tr_innerOf (cf_at 34 rfl) rfl rfl ⟨(SH.o hS ⟨by decide, by decide, by decide⟩), ?_⟩
  refine y_ldk (ok := q_isI) (n := 1) (ck_at dt_Tr_innerOf 2 rfl) rfl rfl (fun _ => rfl) rfl rfl ?_
  refine y_stat3P (k' := n_P_cell) (n := 0) (as := [.ref 93, iv x1]) (r := []) (ck_at dt_Tr_innerOf 3 rfl) own_Tr_innerOf (cm_at 80 rfl) (cs_at 19 rfl) vk_P_cell rfl nl_P_cell rfl rfl rfl rfl  (Y_P_cell (by omega) hS (SH.a (t := 1) (a := 93) (n := 408) hS ⟨by decide, by decide, by decide, by decide⟩) (by decide) p1 p2 ⟨rfl, rfl⟩) ?_
  exact y_retI (ck_at dt_Tr_innerOf 4 rfl) rt_Tr_innerOf w
/-! PatternTrier$Tree.beforeOf(I)I -/
def t_Tr_beforeOf : List (Nat × Instr × Nat) := [(0, .aload_n 0, 1), (1, .getfield 21, 3), (4, .iload_n 1, 1), (5, .invokestatic 65, 3), (8, .ireturn, 1)]
set_option maxRecDepth 100000 in
theorem dt_Tr_beforeOf : q_ck n_Tr_beforeOf t_Tr_beforeOf = true := by decide +kernel
def c_Tr_beforeOf_0 (h1 : qH) (d : Nat) (x1 : Int) (B : qB) (Q : qO → qB → Prop) : Prop := 0 ≤ x1 ∧ x1 < 408 ∧ Q (.inl (some (iv (B 94 x1)))) B
theorem c_Tr_beforeOf_0_ok {h1 : qH} {d : Nat} {x1 : Int} {B : qB} {Q : qO → qB → Prop} (hd : 1 ≤ d) (hS : SH B) (w : c_Tr_beforeOf_0 h1 d x1 B Q) : qY h1 (d + 1) n_Tr_beforeOf 0 [some (.ref 90), some (iv x1)] [] B Q := by
  unfold c_Tr_beforeOf_0 at w
  obtain ⟨p1, p2, w⟩ := w
  refine y_ldk (ok := q_isA) (n := 0) (ck_at dt_Tr_beforeOf 0 rfl) rfl rfl (fun _ => rfl) rfl rfl ?_
  refine y_getF (r := 94) (K := 8) (j := 3) (a := 90) (ck_at dt_Tr_beforeOf 1 rfl) own_Tr_beforeOf (cf_at 35 rfl) rfl rfl ⟨(SH.o hS ⟨by decide, by decide, by decide⟩), ?_⟩
  refine y_ldk (ok := q_isI) (n := 1) (ck_at dt_Tr_beforeOf 2 rfl) rfl rfl (fun _ => rfl) rfl rfl ?_
  refine y_stat3P (k' := n_P_cell) (n := 0) (as := [.ref 94, iv x1]) (r := []) (ck_at dt_Tr_beforeOf 3 rfl) own_Tr_beforeOf (cm_at 80 rfl) (cs_at 19 rfl) vk_P_cell rfl nl_P_cell rfl rfl rfl rfl  (Y_P_cell (by omega) hS (SH.a (t := 1) (a := 94) (n := 408) hS ⟨by decide, by decide, by decide, by decide⟩) (by decide) p1 p2 ⟨rfl, rfl⟩) ?_
  exact y_retI (ck_at dt_Tr_beforeOf 4 rfl) rt_Tr_beforeOf w
/-! PatternTrier$Tree.leastOf(I)I -/
def t_Tr_leastOf : List (Nat × Instr × Nat) := [(0, .aload_n 0, 1), (1, .getfield 24, 3), (4, .iload_n 1, 1), (5, .invokestatic 65, 3), (8, .ireturn, 1)]
set_option maxRecDepth 100000 in
theorem dt_Tr_leastOf : q_ck n_Tr_leastOf t_Tr_leastOf = true := by decide +kernel
def c_Tr_leastOf_0 (h1 : qH) (d : Nat) (x1 : Int) (B : qB) (Q : qO → qB → Prop) : Prop := 0 ≤ x1 ∧ x1 < 408 ∧ Q (.inl (some (iv (B 95 x1)))) B
theorem c_Tr_leastOf_0_ok {h1 : qH} {d : Nat} {x1 : Int} {B : qB} {Q : qO → qB → Prop} (hd : 1 ≤ d) (hS : SH B) (w : c_Tr_leastOf_0 h1 d x1 B Q) : qY h1 (d + 1) n_Tr_leastOf 0 [some (.ref 90), some (iv x1)] [] B Q := by
  unfold c_Tr_leastOf_0 at w
  obtain ⟨p1, p2, w⟩ := w
  refine y_ldk (ok := q_isA) (n := 0) (ck_at dt_Tr_leastOf 0 rfl) rfl rfl (fun _ => rfl) rfl rfl ?_
  refine y_getF (r := 95) (K := 8) (j := 4) (a := 90) (ck_at dt_Tr_leastOf 1 rfl) own_Tr_leastOf (cf_at 36 rfl) rfl rfl ⟨(SH.o hS ⟨by decide, by decide, by decide⟩), ?_⟩
  refine y_ldk (ok := q_isI) (n := 1) (ck_at dt_Tr_leastOf 2 rfl) rfl rfl (fun _ => rfl) rfl rfl ?_
  refine y_stat3P (k' := n_P_cell) (n := 0) (as := [.ref 95, iv x1]) (r := []) (ck_at dt_Tr_leastOf 3 rfl) own_Tr_leastOf (cm_at 80 rfl) (cs_at 19 rfl) vk_P_cell rfl nl_P_cell rfl rfl rfl rfl  (Y_P_cell (by omega) hS (SH.a (t := 1) (a := 95) (n := 408) hS ⟨by decide, by decide, by decide, by decide⟩) (by decide) p1 p2 ⟨rfl, rfl⟩) ?_
  exact y_retI (ck_at dt_Tr_leastOf 4 rfl) rt_Tr_leastOf w
/-! PatternTrier$Tree.mostOf(I)I -/
def t_Tr_mostOf : List (Nat × Instr × Nat) := [(0, .aload_n 0, 1), (1, .getfield 27, 3), (4, .iload_n 1, 1), (5, .invokestatic 65, 3), (8, .ireturn, 1)]
set_option maxRecDepth 100000 in
theorem dt_Tr_mostOf : q_ck n_Tr_mostOf t_Tr_mostOf = true := by decide +kernel
def c_Tr_mostOf_0 (h1 : qH) (d : Nat) (x1 : Int) (B : qB) (Q : qO → qB → Prop) : Prop := 0 ≤ x1 ∧ x1 < 408 ∧ Q (.inl (some (iv (B 96 x1)))) B
theorem c_Tr_mostOf_0_ok {h1 : qH} {d : Nat} {x1 : Int} {B : qB} {Q : qO → qB → Prop} (hd : 1 ≤ d) (hS : SH B) (w : c_Tr_mostOf_0 h1 d x1 B Q) : qY h1 (d + 1) n_Tr_mostOf 0 [some (.ref 90), some (iv x1)] [] B Q := by
  unfold c_Tr_mostOf_0 at w
  obtain ⟨p1, p2, w⟩ := w
  refine y_ldk (ok := q_isA) (n := 0) (ck_at dt_Tr_mostOf 0 rfl) rfl rfl (fun _ => rfl) rfl rfl ?_
  refine y_getF (r := 96) (K := 8) (j := 5) (a := 90) (ck_at dt_Tr_mostOf 1 rfl) own_Tr_mostOf (cf_at 37 rfl) rfl rfl ⟨(SH.o hS ⟨by decide, by decide, by decide⟩), ?_⟩
  refine y_ldk (ok := q_isI) (n := 1) (ck_at dt_Tr_mostOf 2 rfl) rfl rfl (fun _ => rfl) rfl rfl ?_
  refine y_stat3P (k' := n_P_cell) (n := 0) (as := [.ref 96, iv x1]) (r := []) (ck_at dt_Tr_mostOf 3 rfl) own_Tr_mostOf (cm_at 80 rfl) (cs_at 19 rfl) vk_P_cell rfl nl_P_cell rfl rfl rfl rfl  (Y_P_cell (by omega) hS (SH.a (t := 1) (a := 96) (n := 408) hS ⟨by decide, by decide, by decide, by decide⟩) (by decide) p1 p2 ⟨rfl, rfl⟩) ?_
  exact y_retI (ck_at dt_Tr_mostOf 4 rfl) rt_Tr_mostOf w
/-! PatternTrier$Tree.weightOf(I)I -/
def t_Tr_weightOf : List (Nat × Instr × Nat) := [(0, .aload_n 0, 1), (1, .getfield 30, 3), (4, .iload_n 1, 1), (5, .invokestatic 65, 3), (8, .ireturn, 1)]
set_option maxRecDepth 100000 in
theorem dt_Tr_weightOf : q_ck n_Tr_weightOf t_Tr_weightOf = true := by decide +kernel
def c_Tr_weightOf_0 (h1 : qH) (d : Nat) (x1 : Int) (B : qB) (Q : qO → qB → Prop) : Prop := 0 ≤ x1 ∧ x1 < 408 ∧ Q (.inl (some (iv (B 97 x1)))) B
theorem c_Tr_weightOf_0_ok {h1 : qH} {d : Nat} {x1 : Int} {B : qB} {Q : qO → qB → Prop} (hd : 1 ≤ d) (hS : SH B) (w : c_Tr_weightOf_0 h1 d x1 B Q) : qY h1 (d + 1) n_Tr_weightOf 0 [some (.ref 90), some (iv x1)] [] B Q := by
  unfold c_Tr_weightOf_0 at w
  obtain ⟨p1, p2, w⟩ := w
  refine y_ldk (ok := q_isA) (n := 0) (ck_at dt_Tr_weightOf 0 rfl) rfl rfl (fun _ => rfl) rfl rfl ?_
  refine y_getF (r := 97) (K := 8) (j := 6) (a := 90) (ck_at dt_Tr_weightOf 1 rfl) own_Tr_weightOf (cf_at 38 rfl) rfl rfl ⟨(SH.o hS ⟨by decide, by decide, by decide⟩), ?_⟩
  refine y_ldk (ok := q_isI) (n := 1) (ck_at dt_Tr_weightOf 2 rfl) rfl rfl (fun _ => rfl) rfl rfl ?_
  refine y_stat3P (k' := n_P_cell) (n := 0) (as := [.ref 97, iv x1]) (r := []) (ck_at dt_Tr_weightOf 3 rfl) own_Tr_weightOf (cm_at 80 rfl) (cs_at 19 rfl) vk_P_cell rfl nl_P_cell rfl rfl rfl rfl  (Y_P_cell (by omega) hS (SH.a (t := 1) (a := 97) (n := 408) hS ⟨by decide, by decide, by decide, by decide⟩) (by decide) p1 p2 ⟨rfl, rfl⟩) ?_
  exact y_retI (ck_at dt_Tr_weightOf 4 rfl) rt_Tr_weightOf w
/-! PatternTrier$Tree.chain(II)V -/
def t_Tr_chain : List (Nat × Instr × Nat) := [(0, .aload_n 0, 1), (1, .getfield 21, 3), (4, .iload_n 1, 1), (5, .iload_n 2, 1), (6, .invokestatic 47, 3), (9, .return_, 1)]
set_option maxRecDepth 100000 in
theorem dt_Tr_chain : q_ck n_Tr_chain t_Tr_chain = true := by decide +kernel
def c_Tr_chain_0 (h1 : qH) (d : Nat) (x1 : Int) (x2 : Int) (B : qB) (Q : qO → qB → Prop) : Prop := 0 ≤ x1 ∧ x1 < 408 ∧ Q (.inl none) (u2 B 94 x1 x2)
theorem c_Tr_chain_0_ok {h1 : qH} {d : Nat} {x1 : Int} {x2 : Int} {B : qB} {Q : qO → qB → Prop} (hd : 1 ≤ d) (hS : SH B) (w : c_Tr_chain_0 h1 d x1 x2 B Q) : qY h1 (d + 1) n_Tr_chain 0 [some (.ref 90), some (iv x1), some (iv x2)] [] B Q := by
  unfold c_Tr_chain_0 at w
  obtain ⟨p1, p2, w⟩ := w
  refine y_ldk (ok := q_isA) (n := 0) (ck_at dt_Tr_chain 0 rfl) rfl rfl (fun _ => rfl) rfl rfl ?_
  refine y_getF (r := 94) (K := 8) (j := 3) (a := 90) (ck_at dt_Tr_chain 1 rfl) own_Tr_chain (cf_at 35 rfl) rfl rfl ⟨(SH.o hS ⟨by decide, by decide, by decide⟩), ?_⟩
  refine y_ldk (ok := q_isI) (n := 1) (ck_at dt_Tr_chain 2 rfl) rfl rfl (fun _ => rfl) rfl rfl ?_
  refine y_ldk (ok := q_isI) (n := 2) (ck_at dt_Tr_chain 3 rfl) rfl rfl (fun _ => rfl) rfl rfl ?_
  refine y_stat3V (k' := n_P_put) (n := 0) (as := [.ref 94, iv x1, iv x2]) (r := []) (ck_at dt_Tr_chain 4 rfl) own_Tr_chain (cm_at 77 rfl) (cs_at 18 rfl) vk_P_put rfl nl_P_put rfl rfl rfl rfl  (Y_P_put (by omega) hS (SH.a (t := 1) (a := 94) (n := 408) hS ⟨by decide, by decide, by decide, by decide⟩) (by decide) (by decide) p1 p2 ⟨rfl, rfl⟩) ?_
  have hS3 := SH_u2 (b := 94) (x := x1) (z := x2) hS p1
  exact y_ret0 (ck_at dt_Tr_chain 5 rfl) rt_Tr_chain w
/-! PatternTrier$Tree.add(IIII)I -/
def t_Tr_add : List (Nat × Instr × Nat) := [(0, .aload_n 0, 1), (1, .getfield 40, 3), (4, .iconst 1, 1), (5, .if_icmp .lt 13, 3), (8, .aload_n 0, 1), (9, .getfield 40, 3), (12, .sipush 408, 3), (15, .if_icmp .lt 5, 3), (18, .iconst 0, 1), (19, .ireturn, 1), (20, .aload_n 0, 1), (21, .getfield 40, 3), (24, .istore 5, 2), (26, .aload_n 0, 1), (27, .dup, 1), (28, .getfield 40, 3), (31, .iconst 1, 1), (32, .iadd, 1), (33, .putfield 40, 3), (36, .aload_n 0, 1), (37, .getfield 11, 3), (40, .iload 5, 2), (42, .iload_n 1, 1), (43, .invokestatic 47, 3), (46, .aload_n 0, 1), (47, .getfield 15, 3), (50, .iload 5, 2), (52, .iload_n 2, 1), (53, .invokestatic 47, 3), (56, .aload_n 0, 1), (57, .getfield 18, 3), (60, .iload 5, 2), (62, .iload_n 3, 1), (63, .invokestatic 47, 3), (66, .aload_n 0, 1), (67, .getfield 21, 3), (70, .iload 5, 2), (72, .iconst 0, 1), (73, .invokestatic 47, 3), (76, .aload_n 0, 1), (77, .getfield 30, 3), (80, .iload 5, 2), (82, .iload 4, 2), (84, .sipush 401, 3), (87, .invokestatic 51, 3), (90, .invokestatic 47, 3), (93, .iload 5, 2), (95, .ireturn, 1)]
set_option maxRecDepth 100000 in
theorem dt_Tr_add : q_ck n_Tr_add t_Tr_add = true := by decide +kernel
def c_Tr_add_0 (h1 : qH) (d : Nat) (x1 : Int) (x2 : Int) (x3 : Int) (x4 : Int) (B : qB) (Q : qO → qB → Prop) : Prop := R32 (B 90 8) ∧ (B 90 8 < 1 → Q (.inl (some (iv 0))) B) ∧ (B 90 8 ≥ 1 → (B 90 8 < 408 → 0 ≤ (B 90 8) ∧ (B 90 8) < 408 ∧ R32 x4 ∧ Q (.inl (some (iv (B 90 8)))) (u2 (u2 (u2 (u2 (u2 (u2 B 90 8 ((B 90 8) + 1)) 91 (B 90 8) x1) 92 (B 90 8) x2) 93 (B 90 8) x3) 94 (B 90 8) 0) 97 (B 90 8) (min x4 401))) ∧ (B 90 8 ≥ 408 → Q (.inl (some (iv 0))) B))
theorem c_Tr_add_0_ok {h1 : qH} {d : Nat} {x1 : Int} {x2 : Int} {x3 : Int} {x4 : Int} {B : qB} {Q : qO → qB → Prop} (hd : 1 ≤ d) (hS : SH B) (w : c_Tr_add_0 h1 d x1 x2 x3 x4 B Q) : qY h1 (d + 1) n_Tr_add 0 [some (.ref 90), some (iv x1), some (iv x2), some (iv x3), some (iv x4), none] [] B Q := by
  unfold c_Tr_add_0 at w
  obtain ⟨p1, w⟩ := w
  refine y_ldk (ok := q_isA) (n := 0) (ck_at dt_Tr_add 0 rfl) rfl rfl (fun _ => rfl) rfl rfl ?_
  refine y_getI (K := 8) (j := 8) (a := 90) (ck_at dt_Tr_add 1 rfl) own_Tr_add (cf_at 40 rfl) rfl rfl rfl ⟨(SH.o hS ⟨by decide, by decide, by decide⟩), ?_⟩
  refine y_op (ck_at dt_Tr_add 2 rfl) rfl (o_const _) ?_
  refine y_icmp (t := 18) (ck_at dt_Tr_add 3 rfl) rfl p1 ⟨by decide, by decide⟩ ?_ ?_
  · intro q; have w := w.1 q
    refine y_op (ck_at dt_Tr_add 8 rfl) rfl (o_const _) ?_
    exact y_retI (ck_at dt_Tr_add 9 rfl) rt_Tr_add w
  · intro q; have w := w.2 q
    refine y_ldk (ok := q_isA) (n := 0) (ck_at dt_Tr_add 4 rfl) rfl rfl (fun _ => rfl) rfl rfl ?_
    refine y_getI (K := 8) (j := 8) (a := 90) (ck_at dt_Tr_add 5 rfl) own_Tr_add (cf_at 40 rfl) rfl rfl rfl ⟨(SH.o hS ⟨by decide, by decide, by decide⟩), ?_⟩
    refine y_op (ck_at dt_Tr_add 6 rfl) rfl (o_sipush _ (by decide)) ?_
    refine y_icmp (t := 20) (ck_at dt_Tr_add 7 rfl) rfl p1 ⟨by decide, by decide⟩ ?_ ?_
    · intro q; have w := w.1 q
      obtain ⟨p3, p4, p9, w⟩ := w
      refine y_ldk (ok := q_isA) (n := 0) (ck_at dt_Tr_add 10 rfl) rfl rfl (fun _ => rfl) rfl rfl ?_
      refine y_getI (K := 8) (j := 8) (a := 90) (ck_at dt_Tr_add 11 rfl) own_Tr_add (cf_at 40 rfl) rfl rfl rfl ⟨(SH.o hS ⟨by decide, by decide, by decide⟩), ?_⟩
      refine y_st1 (ok := q_isI) (n := 5) (L' := [some (.ref 90), some (iv x1), some (iv x2), some (iv x3), some (iv x4), some (iv (B 90 8))]) (ck_at dt_Tr_add 12 rfl) rfl (fun _ => rfl) (fun _ _ => rfl) rfl nl_Tr_add (by decide) rfl rfl ?_
      refine y_ldk (ok := q_isA) (n := 0) (ck_at dt_Tr_add 13 rfl) rfl rfl (fun _ => rfl) rfl rfl ?_
      refine y_op (ck_at dt_Tr_add 14 rfl) rfl rfl ?_
      refine y_getI (K := 8) (j := 8) (a := 90) (ck_at dt_Tr_add 15 rfl) own_Tr_add (cf_at 40 rfl) rfl rfl rfl ⟨(SH.o hS ⟨by decide, by decide, by decide⟩), ?_⟩
      refine y_op (ck_at dt_Tr_add 16 rfl) rfl (o_const _) ?_
      refine y_op (ck_at dt_Tr_add 17 rfl) rfl o_iadd ?_
      refine y_putI (K := 8) (j := 8) (a := 90) (ck_at dt_Tr_add 18 rfl) own_Tr_add (cf_at 40 rfl) rfl rfl rfl rfl rfl ⟨⟨SH.o hS ⟨by decide, by decide, by decide⟩, by decide⟩, ?_⟩
      have hS2 := SH_u2 (b := 90) (x := 8) (z := (B 90 8) + 1) hS (by decide)
      refine y_ldk (ok := q_isA) (n := 0) (ck_at dt_Tr_add 19 rfl) rfl rfl (fun _ => rfl) rfl rfl ?_
      refine y_getF (r := 91) (K := 8) (j := 0) (a := 90) (ck_at dt_Tr_add 20 rfl) own_Tr_add (cf_at 32 rfl) rfl rfl ⟨(SH.o hS2 ⟨by decide, by decide, by decide⟩), ?_⟩
      refine y_ldk (ok := q_isI) (n := 5) (ck_at dt_Tr_add 21 rfl) rfl rfl (fun _ => rfl) rfl rfl ?_
      refine y_ldk (ok := q_isI) (n := 1) (ck_at dt_Tr_add 22 rfl) rfl rfl (fun _ => rfl) rfl rfl ?_
      refine y_stat3V (k' := n_P_put) (n := 0) (as := [.ref 91, iv (B 90 8), iv x1]) (r := []) (ck_at dt_Tr_add 23 rfl) own_Tr_add (cm_at 77 rfl) (cs_at 18 rfl) vk_P_put rfl nl_P_put rfl rfl rfl rfl  (Y_P_put (by omega) hS2 (SH.a (t := 1) (a := 91) (n := 408) hS2 ⟨by decide, by decide, by decide, by decide⟩) (by decide) (by decide) p3 p4 ⟨rfl, rfl⟩) ?_
      have hS5 := SH_u2 (b := 91) (x := (B 90 8)) (z := x1) hS2 p3
      refine y_ldk (ok := q_isA) (n := 0) (ck_at dt_Tr_add 24 rfl) rfl rfl (fun _ => rfl) rfl rfl ?_
      refine y_getF (r := 92) (K := 8) (j := 1) (a := 90) (ck_at dt_Tr_add 25 rfl) own_Tr_add (cf_at 33 rfl) rfl rfl ⟨(SH.o hS5 ⟨by decide, by decide, by decide⟩), ?_⟩
      refine y_ldk (ok := q_isI) (n := 5) (ck_at dt_Tr_add 26 rfl) rfl rfl (fun _ => rfl) rfl rfl ?_
      refine y_ldk (ok := q_isI) (n := 2) (ck_at dt_Tr_add 27 rfl) rfl rfl (fun _ => rfl) rfl rfl ?_
      refine y_stat3V (k' := n_P_put) (n := 0) (as := [.ref 92, iv (B 90 8), iv x2]) (r := []) (ck_at dt_Tr_add 28 rfl) own_Tr_add (cm_at 77 rfl) (cs_at 18 rfl) vk_P_put rfl nl_P_put rfl rfl rfl rfl  (Y_P_put (by omega) hS5 (SH.a (t := 1) (a := 92) (n := 408) hS5 ⟨by decide, by decide, by decide, by decide⟩) (by decide) (by decide) p3 p4 ⟨rfl, rfl⟩) ?_
      have hS6 := SH_u2 (b := 92) (x := (B 90 8)) (z := x2) hS5 p3
      refine y_ldk (ok := q_isA) (n := 0) (ck_at dt_Tr_add 29 rfl) rfl rfl (fun _ => rfl) rfl rfl ?_
      refine y_getF (r := 93) (K := 8) (j := 2) (a := 90) (ck_at dt_Tr_add 30 rfl) own_Tr_add (cf_at 34 rfl) rfl rfl ⟨(SH.o hS6 ⟨by decide, by decide, by decide⟩), ?_⟩
      refine y_ldk (ok := q_isI) (n := 5) (ck_at dt_Tr_add 31 rfl) rfl rfl (fun _ => rfl) rfl rfl ?_
      refine y_ldk (ok := q_isI) (n := 3) (ck_at dt_Tr_add 32 rfl) rfl rfl (fun _ => rfl) rfl rfl ?_
      refine y_stat3V (k' := n_P_put) (n := 0) (as := [.ref 93, iv (B 90 8), iv x3]) (r := []) (ck_at dt_Tr_add 33 rfl) own_Tr_add (cm_at 77 rfl) (cs_at 18 rfl) vk_P_put rfl nl_P_put rfl rfl rfl rfl  (Y_P_put (by omega) hS6 (SH.a (t := 1) (a := 93) (n := 408) hS6 ⟨by decide, by decide, by decide, by decide⟩) (by decide) (by decide) p3 p4 ⟨rfl, rfl⟩) ?_
      have hS7 := SH_u2 (b := 93) (x := (B 90 8)) (z := x3) hS6 p3
      refine y_ldk (ok := q_isA) (n := 0) (ck_at dt_Tr_add 34 rfl) rfl rfl (fun _ => rfl) rfl rfl ?_
      refine y_getF (r := 94) (K := 8) (j := 3) (a := 90) (ck_at dt_Tr_add 35 rfl) own_Tr_add (cf_at 35 rfl) rfl rfl ⟨(SH.o hS7 ⟨by decide, by decide, by decide⟩), ?_⟩
      refine y_ldk (ok := q_isI) (n := 5) (ck_at dt_Tr_add 36 rfl) rfl rfl (fun _ => rfl) rfl rfl ?_
      refine y_op (ck_at dt_Tr_add 37 rfl) rfl (o_const _) ?_
      refine y_stat3V (k' := n_P_put) (n := 0) (as := [.ref 94, iv (B 90 8), iv 0]) (r := []) (ck_at dt_Tr_add 38 rfl) own_Tr_add (cm_at 77 rfl) (cs_at 18 rfl) vk_P_put rfl nl_P_put rfl rfl rfl rfl  (Y_P_put (by omega) hS7 (SH.a (t := 1) (a := 94) (n := 408) hS7 ⟨by decide, by decide, by decide, by decide⟩) (by decide) (by decide) p3 p4 ⟨rfl, rfl⟩) ?_
      have hS8 := SH_u2 (b := 94) (x := (B 90 8)) (z := 0) hS7 p3
      refine y_ldk (ok := q_isA) (n := 0) (ck_at dt_Tr_add 39 rfl) rfl rfl (fun _ => rfl) rfl rfl ?_
      refine y_getF (r := 97) (K := 8) (j := 6) (a := 90) (ck_at dt_Tr_add 40 rfl) own_Tr_add (cf_at 38 rfl) rfl rfl ⟨(SH.o hS8 ⟨by decide, by decide, by decide⟩), ?_⟩
      refine y_ldk (ok := q_isI) (n := 5) (ck_at dt_Tr_add 41 rfl) rfl rfl (fun _ => rfl) rfl rfl ?_
      refine y_ldk (ok := q_isI) (n := 4) (ck_at dt_Tr_add 42 rfl) rfl rfl (fun _ => rfl) rfl rfl ?_
      refine y_op (ck_at dt_Tr_add 43 rfl) rfl (o_sipush _ (by decide)) ?_
      refine y_mm (b := false) (ck_at dt_Tr_add 44 rfl) own_Tr_add (by decide +kernel) rfl p9 ⟨by decide, by decide⟩ ?_
      rw [if_neg (by decide)]
      refine y_stat3V (k' := n_P_put) (n := 0) (as := [.ref 97, iv (B 90 8), iv (min x4 401)]) (r := []) (ck_at dt_Tr_add 45 rfl) own_Tr_add (cm_at 77 rfl) (cs_at 18 rfl) vk_P_put rfl nl_P_put rfl rfl rfl rfl  (Y_P_put (by omega) hS8 (SH.a (t := 1) (a := 97) (n := 408) hS8 ⟨by decide, by decide, by decide, by decide⟩) (by decide) (by decide) p3 p4 ⟨rfl, rfl⟩) ?_
      have hS10 := SH_u2 (b := 97) (x := (B 90 8)) (z := (min x4 401)) hS8 p3
      refine y_ldk (ok := q_isI) (n := 5) (ck_at dt_Tr_add 46 rfl) rfl rfl (fun _ => rfl) rfl rfl ?_
      exact y_retI (ck_at dt_Tr_add 47 rfl) rt_Tr_add w
    · intro q; have w := w.2 q
      refine y_op (ck_at dt_Tr_add 8 rfl) rfl (o_const _) ?_
      exact y_retI (ck_at dt_Tr_add 9 rfl) rt_Tr_add w
/-! PatternTrier$Tree.clear()V -/
def t_Tr_clear : List (Nat × Instr × Nat) := [(0, .aload_n 0, 1), (1, .iconst 1, 1), (2, .putfield 40, 3), (5, .aload_n 0, 1), (6, .getfield 36, 3), (9, .invokevirtual 44, 3), (12, .return_, 1)]
set_option maxRecDepth 100000 in
theorem dt_Tr_clear : q_ck n_Tr_clear t_Tr_clear = true := by decide +kernel
def c_Tr_clear_0 (h1 : qH) (d : Nat) (B : qB) (Q : qO → qB → Prop) : Prop := Q (.inl none) (u2 (u2 B 90 8 1) 98 1 0)
theorem c_Tr_clear_0_ok {h1 : qH} {d : Nat} {B : qB} {Q : qO → qB → Prop} (hd : 1 ≤ d) (hS : SH B) (w : c_Tr_clear_0 h1 d B Q) : qY h1 (d + 1) n_Tr_clear 0 [some (.ref 90)] [] B Q := by
  unfold c_Tr_clear_0 at w
  refine y_ldk (ok := q_isA) (n := 0) (ck_at dt_Tr_clear 0 rfl) rfl rfl (fun _ => rfl) rfl rfl ?_
  refine y_op (ck_at dt_Tr_clear 1 rfl) rfl (o_const _) ?_
  refine y_putI (K := 8) (j := 8) (a := 90) (ck_at dt_Tr_clear 2 rfl) own_Tr_clear (cf_at 40 rfl) rfl rfl rfl rfl rfl ⟨⟨SH.o hS ⟨by decide, by decide, by decide⟩, by decide⟩, ?_⟩
  have hS1 := SH_u2 (b := 90) (x := 8) (z := 1) hS (by decide)
  refine y_ldk (ok := q_isA) (n := 0) (ck_at dt_Tr_clear 3 rfl) rfl rfl (fun _ => rfl) rfl rfl ?_
  refine y_getF (r := 98) (K := 8) (j := 7) (a := 90) (ck_at dt_Tr_clear 4 rfl) own_Tr_clear (cf_at 39 rfl) rfl rfl ⟨(SH.o hS1 ⟨by decide, by decide, by decide⟩), ?_⟩
  refine y_virtV (k' := n_Se_clear) (n := 0) (as := []) (r := []) (ck_at dt_Tr_clear 5 rfl) own_Tr_clear (cm_at 76 rfl) vk_Se_clear rfl nl_Se_clear rfl rfl rfl rfl (SH.o hS1 ⟨by decide, by decide, by decide⟩) (Y_Se_clear (by omega) hS1 ⟨by decide, by decide, by decide⟩ ⟨rfl, rfl⟩) ?_
  have hS2 := SH_u2 (b := 98) (x := 1) (z := 0) hS1 (by decide)
  exact y_ret0 (ck_at dt_Tr_clear 6 rfl) rt_Tr_clear w
/-! PatternTrier$Sets.holds(II)Z -/
def t_Se_holds : List (Nat × Instr × Nat) := [(0, .iload_n 2, 1), (1, .ifCond .lt 32, 3), (4, .aload_n 0, 1), (5, .getfield 9, 3), (8, .iload_n 1, 1), (9, .bipush 8, 2), (11, .imul, 1), (12, .iload_n 2, 1), (13, .iconst 5, 1), (14, .iushr, 1), (15, .iadd, 1), (16, .invokestatic 23, 3), (19, .iload_n 2, 1), (20, .bipush 31, 2), (22, .iand, 1), (23, .iushr, 1), (24, .iconst 1, 1), (25, .iand, 1), (26, .ifCond .eq 7, 3), (29, .iconst 1, 1), (30, .goto 4, 3), (33, .iconst 0, 1), (34, .ireturn, 1)]
set_option maxRecDepth 100000 in
theorem dt_Se_holds : q_ck n_Se_holds t_Se_holds = true := by decide +kernel
def c_Se_holds_0 (h1 : qH) (d : Nat) (a0 : Nat) (x1 : Int) (x2 : Int) (B : qB) (Q : qO → qB → Prop) : Prop := R32 x2 ∧ (x2 < 0 → Q (.inl (some (iv 0))) B) ∧ (x2 ≥ 0 → 0 ≤ ((x1 * 8) + (iUshr x2 5)) ∧ ((x1 * 8) + (iUshr x2 5)) < 1600 ∧ (iAnd (iUshr (B (a0 + 1) ((x1 * 8) + (iUshr x2 5))) (iAnd x2 31)) 1 = 0 → Q (.inl (some (iv 0))) B) ∧ (¬ iAnd (iUshr (B (a0 + 1) ((x1 * 8) + (iUshr x2 5))) (iAnd x2 31)) 1 = 0 → Q (.inl (some (iv 1))) B))
theorem c_Se_holds_0_ok {h1 : qH} {d : Nat} {a0 : Nat} {x1 : Int} {x2 : Int} {B : qB} {Q : qO → qB → Prop} (hd : 1 ≤ d) (hS : SH B) (ha0 : ob 7 a0) (w : c_Se_holds_0 h1 d a0 x1 x2 B Q) : qY h1 (d + 1) n_Se_holds 0 [some (.ref a0), some (iv x1), some (iv x2)] [] B Q := by
  unfold c_Se_holds_0 at w
  obtain ⟨p1, w⟩ := w
  refine y_ldk (ok := q_isI) (n := 2) (ck_at dt_Se_holds 0 rfl) rfl rfl (fun _ => rfl) rfl rfl ?_
  refine y_ifz (t := 33) (ck_at dt_Se_holds 1 rfl) rfl p1 ?_ ?_
  · intro q; have w := w.1 q
    refine y_op (ck_at dt_Se_holds 21 rfl) rfl (o_const _) ?_
    exact y_retZ (ck_at dt_Se_holds 22 rfl) rt_Se_holds (by decide) w
  · intro q; have w := w.2 q
    obtain ⟨p2, p3, w⟩ := w
    refine y_ldk (ok := q_isA) (n := 0) (ck_at dt_Se_holds 2 rfl) rfl rfl (fun _ => rfl) rfl rfl ?_
    refine y_getF (r := a0 + 1) (K := 7) (j := 0) (a := a0) (ck_at dt_Se_holds 3 rfl) own_Se_holds (cf_at 30 rfl) rfl rfl ⟨(SH.o hS ha0), ?_⟩
    refine y_ldk (ok := q_isI) (n := 1) (ck_at dt_Se_holds 4 rfl) rfl rfl (fun _ => rfl) rfl rfl ?_
    refine y_op (ck_at dt_Se_holds 5 rfl) rfl (o_bipush _ (by decide)) ?_
    refine y_op (ck_at dt_Se_holds 6 rfl) rfl o_imul ?_
    refine y_ldk (ok := q_isI) (n := 2) (ck_at dt_Se_holds 7 rfl) rfl rfl (fun _ => rfl) rfl rfl ?_
    refine y_op (ck_at dt_Se_holds 8 rfl) rfl (o_const _) ?_
    refine y_op (ck_at dt_Se_holds 9 rfl) rfl o_iushr ?_
    refine y_op (ck_at dt_Se_holds 10 rfl) rfl o_iadd ?_
    refine y_stat3P (k' := n_P_cell) (n := 0) (as := [.ref (a0 + 1), iv ((x1 * 8) + (iUshr x2 5))]) (r := []) (ck_at dt_Se_holds 11 rfl) own_Se_holds (cm_at 75 rfl) (cs_at 17 rfl) vk_P_cell rfl nl_P_cell rfl rfl rfl rfl  (Y_P_cell (by omega) hS (SH.a hS (oa7 ha0)) (by decide) p2 p3 ⟨rfl, rfl⟩) ?_
    refine y_ldk (ok := q_isI) (n := 2) (ck_at dt_Se_holds 12 rfl) rfl rfl (fun _ => rfl) rfl rfl ?_
    refine y_op (ck_at dt_Se_holds 13 rfl) rfl (o_bipush _ (by decide)) ?_
    refine y_op (ck_at dt_Se_holds 14 rfl) rfl o_iand ?_
    refine y_op (ck_at dt_Se_holds 15 rfl) rfl o_iushr ?_
    refine y_op (ck_at dt_Se_holds 16 rfl) rfl (o_const _) ?_
    refine y_op (ck_at dt_Se_holds 17 rfl) rfl o_iand ?_
    refine y_ifz (t := 33) (ck_at dt_Se_holds 18 rfl) rfl (R32_i _) ?_ ?_
    · intro q; have w := w.1 q
      refine y_op (ck_at dt_Se_holds 21 rfl) rfl (o_const _) ?_
      exact y_retZ (ck_at dt_Se_holds 22 rfl) rt_Se_holds (by decide) w
    · intro q; have w := w.2 q
      refine y_op (ck_at dt_Se_holds 19 rfl) rfl (o_const _) ?_
      refine y_goto (t := 34) (ck_at dt_Se_holds 20 rfl) rfl ?_
      exact y_retZ (ck_at dt_Se_holds 22 rfl) rt_Se_holds (by decide) w
/-! PatternTrier$Program.holds(II)Z -/
def t_Pr_holds : List (Nat × Instr × Nat) := [(0, .aload_n 0, 1), (1, .getfield 33, 3), (4, .iload_n 1, 1), (5, .iload_n 2, 1), (6, .invokevirtual 79, 3), (9, .ireturn, 1)]
set_option maxRecDepth 100000 in
theorem dt_Pr_holds : q_ck n_Pr_holds t_Pr_holds = true := by decide +kernel
def c_Pr_holds_0 (h1 : qH) (d : Nat) (a0 : Nat) (x1 : Int) (x2 : Int) (B : qB) (Q : qO → qB → Prop) : Prop := hoO x1 x2 ∧ Q (.inl (some (iv (bi (hoC B (a0 + 7) x1 x2))))) B
theorem c_Pr_holds_0_ok {h1 : qH} {d : Nat} {a0 : Nat} {x1 : Int} {x2 : Int} {B : qB} {Q : qO → qB → Prop} (hd : 2 ≤ d) (hS : SH B) (ha0 : ob 5 a0) (w : c_Pr_holds_0 h1 d a0 x1 x2 B Q) : qY h1 (d + 1) n_Pr_holds 0 [some (.ref a0), some (iv x1), some (iv x2)] [] B Q := by
  unfold c_Pr_holds_0 at w
  obtain ⟨p1, w⟩ := w
  refine y_ldk (ok := q_isA) (n := 0) (ck_at dt_Pr_holds 0 rfl) rfl rfl (fun _ => rfl) rfl rfl ?_
  refine y_getF (r := a0 + 7) (K := 5) (j := 6) (a := a0) (ck_at dt_Pr_holds 1 rfl) own_Pr_holds (cf_at 15 rfl) rfl rfl ⟨(SH.o hS ha0), ?_⟩
  refine y_ldk (ok := q_isI) (n := 1) (ck_at dt_Pr_holds 2 rfl) rfl rfl (fun _ => rfl) rfl rfl ?_
  refine y_ldk (ok := q_isI) (n := 2) (ck_at dt_Pr_holds 3 rfl) rfl rfl (fun _ => rfl) rfl rfl ?_
  refine y_virtP (k' := n_Se_holds) (n := 0) (as := [iv x1, iv x2]) (r := []) (ck_at dt_Pr_holds 4 rfl) own_Pr_holds (cm_at 38 rfl) vk_Se_holds rfl nl_Se_holds rfl rfl rfl rfl (SH.o hS (ob57 ha0)) (Y_Se_holds (by omega) hS (ob57 ha0) p1 ⟨rfl, rfl⟩) ?_
  exact y_retZ (ck_at dt_Pr_holds 5 rfl) rt_Pr_holds (bi_or _) w
/-! PatternTrier$Program.add(IIII)I -/
def t_Pr_add : List (Nat × Instr × Nat) := [(0, .aload_n 0, 1), (1, .getfield 47, 3), (4, .ifCond .lt 13, 3), (7, .aload_n 0, 1), (8, .getfield 47, 3), (11, .sipush 608, 3), (14, .if_icmp .lt 5, 3), (17, .iconst 0, 1), (18, .ireturn, 1), (19, .aload_n 0, 1), (20, .getfield 47, 3), (23, .istore 5, 2), (25, .aload_n 0, 1), (26, .dup, 1), (27, .getfield 47, 3), (30, .iconst 1, 1), (31, .iadd, 1), (32, .putfield 47, 3), (35, .aload_n 0, 1), (36, .getfield 11, 3), (39, .iload 5, 2), (41, .iload_n 1, 1), (42, .invokestatic 57, 3), (45, .aload_n 0, 1), (46, .getfield 15, 3), (49, .iload 5, 2), (51, .iload_n 2, 1), (52, .invokestatic 57, 3), (55, .aload_n 0, 1), (56, .getfield 18, 3), (59, .iload 5, 2), (61, .iload_n 3, 1), (62, .invokestatic 57, 3), (65, .aload_n 0, 1), (66, .getfield 21, 3), (69, .iload 5, 2), (71, .iconst 0, 1), (72, .invokestatic 57, 3), (75, .aload_n 0, 1), (76, .getfield 24, 3), (79, .iload 5, 2), (81, .iload 4, 2), (83, .invokestatic 57, 3), (86, .aload_n 0, 1), (87, .getfield 27, 3), (90, .iload 5, 2), (92, .aload_n 0, 1), (93, .getfield 50, 3), (96, .invokestatic 57, 3), (99, .iload_n 1, 1), (100, .bipush 15, 2), (102, .if_icmp .eq 21, 3), (105, .iload_n 1, 1), (106, .bipush 14, 2), (108, .if_icmp .eq 15, 3), (111, .iload_n 1, 1), (112, .bipush 7, 2), (114, .if_icmp .eq 9, 3), (117, .iload_n 1, 1), (118, .bipush 8, 2), (120, .if_icmp .ne 13, 3), (123, .aload_n 0, 1), (124, .dup, 1), (125, .getfield 50, 3), (128, .iconst 1, 1), (129, .iadd, 1), (130, .putfield 50, 3), (133, .iload 5, 2), (135, .ireturn, 1)]
set_option maxRecDepth 100000 in
theorem dt_Pr_add : q_ck n_Pr_add t_Pr_add = true := by decide +kernel
def c_Pr_add_123 (h1 : qH) (d : Nat) (a0 : Nat) (x5 : Int) (B : qB) (Q : qO → qB → Prop) : Prop := Q (.inl (some (iv x5))) (u2 B a0 8 ((B a0 8) + 1))
theorem c_Pr_add_123_ok {h1 : qH} {d : Nat} {a0 : Nat} {x5 : Int} {B : qB} {Q : qO → qB → Prop} (hd : 1 ≤ d) (hS : SH B) (ha0 : ob 5 a0) (w : c_Pr_add_123 h1 d a0 x5 B Q) : qY h1 (d + 1) n_Pr_add 123 [some (.ref a0), none, none, none, none, some (iv x5)] [] B Q := by
  unfold c_Pr_add_123 at w
  refine y_ldk (ok := q_isA) (n := 0) (ck_at dt_Pr_add 61 rfl) rfl rfl (fun _ => rfl) rfl rfl ?_
  refine y_op (ck_at dt_Pr_add 62 rfl) rfl rfl ?_
  refine y_getI (K := 5) (j := 8) (a := a0) (ck_at dt_Pr_add 63 rfl) own_Pr_add (cf_at 20 rfl) rfl rfl rfl ⟨(SH.o hS ha0), ?_⟩
  refine y_op (ck_at dt_Pr_add 64 rfl) rfl (o_const _) ?_
  refine y_op (ck_at dt_Pr_add 65 rfl) rfl o_iadd ?_
  refine y_putI (K := 5) (j := 8) (a := a0) (ck_at dt_Pr_add 66 rfl) own_Pr_add (cf_at 20 rfl) rfl rfl rfl rfl rfl ⟨⟨SH.o hS ha0, ob.lt ha0⟩, ?_⟩
  have hS1 := SH_u2 (b := a0) (x := 8) (z := (B a0 8) + 1) hS (by decide)
  refine y_ldk (ok := q_isI) (n := 5) (ck_at dt_Pr_add 67 rfl) rfl rfl (fun _ => rfl) rfl rfl ?_
  exact y_retI (ck_at dt_Pr_add 68 rfl) rt_Pr_add w
def c_Pr_add_0 (h1 : qH) (d : Nat) (a0 : Nat) (x1 : Int) (x2 : Int) (x3 : Int) (x4 : Int) (B : qB) (Q : qO → qB → Prop) : Prop := R32 (B a0 7) ∧ (B a0 7 < 0 → Q (.inl (some (iv 0))) B) ∧ (B a0 7 ≥ 0 → (B a0 7 < 608 → 0 ≤ (B a0 7) ∧ (B a0 7) < 608 ∧ R32 x1 ∧ (x1 = 15 → c_Pr_add_123 h1 d a0 (B a0 7) (u2 (u2 (u2 (u2 (u2 (u2 (u2 B a0 7 ((B a0 7) + 1)) (a0 + 1) (B a0 7) x1) (a0 + 2) (B a0 7) x2) (a0 + 3) (B a0 7) x3) (a0 + 4) (B a0 7) 0) (a0 + 5) (B a0 7) x4) (a0 + 6) (B a0 7) ((u2 (u2 (u2 (u2 (u2 (u2 B a0 7 ((B a0 7) + 1)) (a0 + 1) (B a0 7) x1) (a0 + 2) (B a0 7) x2) (a0 + 3) (B a0 7) x3) (a0 + 4) (B a0 7) 0) (a0 + 5) (B a0 7) x4) a0 8)) Q) ∧ (¬ x1 = 15 → (x1 = 14 → c_Pr_add_123 h1 d a0 (B a0 7) (u2 (u2 (u2 (u2 (u2 (u2 (u2 B a0 7 ((B a0 7) + 1)) (a0 + 1) (B a0 7) x1) (a0 + 2) (B a0 7) x2) (a0 + 3) (B a0 7) x3) (a0 + 4) (B a0 7) 0) (a0 + 5) (B a0 7) x4) (a0 + 6) (B a0 7) ((u2 (u2 (u2 (u2 (u2 (u2 B a0 7 ((B a0 7) + 1)) (a0 + 1) (B a0 7) x1) (a0 + 2) (B a0 7) x2) (a0 + 3) (B a0 7) x3) (a0 + 4) (B a0 7) 0) (a0 + 5) (B a0 7) x4) a0 8)) Q) ∧ (¬ x1 = 14 → (x1 = 7 → c_Pr_add_123 h1 d a0 (B a0 7) (u2 (u2 (u2 (u2 (u2 (u2 (u2 B a0 7 ((B a0 7) + 1)) (a0 + 1) (B a0 7) x1) (a0 + 2) (B a0 7) x2) (a0 + 3) (B a0 7) x3) (a0 + 4) (B a0 7) 0) (a0 + 5) (B a0 7) x4) (a0 + 6) (B a0 7) ((u2 (u2 (u2 (u2 (u2 (u2 B a0 7 ((B a0 7) + 1)) (a0 + 1) (B a0 7) x1) (a0 + 2) (B a0 7) x2) (a0 + 3) (B a0 7) x3) (a0 + 4) (B a0 7) 0) (a0 + 5) (B a0 7) x4) a0 8)) Q) ∧ (¬ x1 = 7 → (¬ x1 = 8 → Q (.inl (some (iv (B a0 7)))) (u2 (u2 (u2 (u2 (u2 (u2 (u2 B a0 7 ((B a0 7) + 1)) (a0 + 1) (B a0 7) x1) (a0 + 2) (B a0 7) x2) (a0 + 3) (B a0 7) x3) (a0 + 4) (B a0 7) 0) (a0 + 5) (B a0 7) x4) (a0 + 6) (B a0 7) ((u2 (u2 (u2 (u2 (u2 (u2 B a0 7 ((B a0 7) + 1)) (a0 + 1) (B a0 7) x1) (a0 + 2) (B a0 7) x2) (a0 + 3) (B a0 7) x3) (a0 + 4) (B a0 7) 0) (a0 + 5) (B a0 7) x4) a0 8))) ∧ (x1 = 8 → c_Pr_add_123 h1 d a0 (B a0 7) (u2 (u2 (u2 (u2 (u2 (u2 (u2 B a0 7 ((B a0 7) + 1)) (a0 + 1) (B a0 7) x1) (a0 + 2) (B a0 7) x2) (a0 + 3) (B a0 7) x3) (a0 + 4) (B a0 7) 0) (a0 + 5) (B a0 7) x4) (a0 + 6) (B a0 7) ((u2 (u2 (u2 (u2 (u2 (u2 B a0 7 ((B a0 7) + 1)) (a0 + 1) (B a0 7) x1) (a0 + 2) (B a0 7) x2) (a0 + 3) (B a0 7) x3) (a0 + 4) (B a0 7) 0) (a0 + 5) (B a0 7) x4) a0 8)) Q))))) ∧ (B a0 7 ≥ 608 → Q (.inl (some (iv 0))) B))
theorem c_Pr_add_0_ok {h1 : qH} {d : Nat} {a0 : Nat} {x1 : Int} {x2 : Int} {x3 : Int} {x4 : Int} {B : qB} {Q : qO → qB → Prop} (hd : 1 ≤ d) (hS : SH B) (ha0 : ob 5 a0) (w : c_Pr_add_0 h1 d a0 x1 x2 x3 x4 B Q) : qY h1 (d + 1) n_Pr_add 0 [some (.ref a0), some (iv x1), some (iv x2), some (iv x3), some (iv x4), none] [] B Q := by
  unfold c_Pr_add_0 at w
  obtain ⟨p1, w⟩ := w
  refine y_ldk (ok := q_isA) (n := 0) (ck_at dt_Pr_add 0 rfl) rfl rfl (fun _ => rfl) rfl rfl ?_
  refine y_getI (K := 5) (j := 7) (a := a0) (ck_at dt_Pr_add 1 rfl) own_Pr_add (cf_at 19 rfl) rfl rfl rfl ⟨(SH.o hS ha0), ?_⟩
  refine y_ifz (t := 17) (ck_at dt_Pr_add 2 rfl) rfl p1 ?_ ?_
  · intro q; have w := w.1 q
    refine y_op (ck_at dt_Pr_add 7 rfl) rfl (o_const _) ?_
    exact y_retI (ck_at dt_Pr_add 8 rfl) rt_Pr_add w
  · intro q; have w := w.2 q
    refine y_ldk (ok := q_isA) (n := 0) (ck_at dt_Pr_add 3 rfl) rfl rfl (fun _ => rfl) rfl rfl ?_
    refine y_getI (K := 5) (j := 7) (a := a0) (ck_at dt_Pr_add 4 rfl) own_Pr_add (cf_at 19 rfl) rfl rfl rfl ⟨(SH.o hS ha0), ?_⟩
    refine y_op (ck_at dt_Pr_add 5 rfl) rfl (o_sipush _ (by decide)) ?_
    refine y_icmp (t := 19) (ck_at dt_Pr_add 6 rfl) rfl p1 ⟨by decide, by decide⟩ ?_ ?_
    · intro q; have w := w.1 q
      obtain ⟨p3, p4, p11, w⟩ := w
      refine y_ldk (ok := q_isA) (n := 0) (ck_at dt_Pr_add 9 rfl) rfl rfl (fun _ => rfl) rfl rfl ?_
      refine y_getI (K := 5) (j := 7) (a := a0) (ck_at dt_Pr_add 10 rfl) own_Pr_add (cf_at 19 rfl) rfl rfl rfl ⟨(SH.o hS ha0), ?_⟩
      refine y_st1 (ok := q_isI) (n := 5) (L' := [some (.ref a0), some (iv x1), some (iv x2), some (iv x3), some (iv x4), some (iv (B a0 7))]) (ck_at dt_Pr_add 11 rfl) rfl (fun _ => rfl) (fun _ _ => rfl) rfl nl_Pr_add (by decide) rfl rfl ?_
      refine y_ldk (ok := q_isA) (n := 0) (ck_at dt_Pr_add 12 rfl) rfl rfl (fun _ => rfl) rfl rfl ?_
      refine y_op (ck_at dt_Pr_add 13 rfl) rfl rfl ?_
      refine y_getI (K := 5) (j := 7) (a := a0) (ck_at dt_Pr_add 14 rfl) own_Pr_add (cf_at 19 rfl) rfl rfl rfl ⟨(SH.o hS ha0), ?_⟩
      refine y_op (ck_at dt_Pr_add 15 rfl) rfl (o_const _) ?_
      refine y_op (ck_at dt_Pr_add 16 rfl) rfl o_iadd ?_
      refine y_putI (K := 5) (j := 7) (a := a0) (ck_at dt_Pr_add 17 rfl) own_Pr_add (cf_at 19 rfl) rfl rfl rfl rfl rfl ⟨⟨SH.o hS ha0, ob.lt ha0⟩, ?_⟩
      have hS2 := SH_u2 (b := a0) (x := 7) (z := (B a0 7) + 1) hS (by decide)
      refine y_ldk (ok := q_isA) (n := 0) (ck_at dt_Pr_add 18 rfl) rfl rfl (fun _ => rfl) rfl rfl ?_
      refine y_getF (r := a0 + 1) (K := 5) (j := 0) (a := a0) (ck_at dt_Pr_add 19 rfl) own_Pr_add (cf_at 9 rfl) rfl rfl ⟨(SH.o hS2 ha0), ?_⟩
      refine y_ldk (ok := q_isI) (n := 5) (ck_at dt_Pr_add 20 rfl) rfl rfl (fun _ => rfl) rfl rfl ?_
      refine y_ldk (ok := q_isI) (n := 1) (ck_at dt_Pr_add 21 rfl) rfl rfl (fun _ => rfl) rfl rfl ?_
      refine y_stat3V (k' := n_P_put) (n := 0) (as := [.ref (a0 + 1), iv (B a0 7), iv x1]) (r := []) (ck_at dt_Pr_add 22 rfl) own_Pr_add (cm_at 33 rfl) (cs_at 10 rfl) vk_P_put rfl nl_P_put rfl rfl rfl rfl  (Y_P_put (by omega) hS2 (SH.a hS2 (oa5 ha0 0 (by decide))) (by decide) (oa.lt (oa5 ha0 0 (by decide))) p3 p4 ⟨rfl, rfl⟩) ?_
      have hS5 := SH_u2 (b := (a0 + 1)) (x := (B a0 7)) (z := x1) hS2 p3
      refine y_ldk (ok := q_isA) (n := 0) (ck_at dt_Pr_add 23 rfl) rfl rfl (fun _ => rfl) rfl rfl ?_
      refine y_getF (r := a0 + 2) (K := 5) (j := 1) (a := a0) (ck_at dt_Pr_add 24 rfl) own_Pr_add (cf_at 10 rfl) rfl rfl ⟨(SH.o hS5 ha0), ?_⟩
      refine y_ldk (ok := q_isI) (n := 5) (ck_at dt_Pr_add 25 rfl) rfl rfl (fun _ => rfl) rfl rfl ?_
      refine y_ldk (ok := q_isI) (n := 2) (ck_at dt_Pr_add 26 rfl) rfl rfl (fun _ => rfl) rfl rfl ?_
      refine y_stat3V (k' := n_P_put) (n := 0) (as := [.ref (a0 + 2), iv (B a0 7), iv x2]) (r := []) (ck_at dt_Pr_add 27 rfl) own_Pr_add (cm_at 33 rfl) (cs_at 10 rfl) vk_P_put rfl nl_P_put rfl rfl rfl rfl  (Y_P_put (by omega) hS5 (SH.a hS5 (oa5 ha0 1 (by decide))) (by decide) (oa.lt (oa5 ha0 1 (by decide))) p3 p4 ⟨rfl, rfl⟩) ?_
      have hS6 := SH_u2 (b := (a0 + 2)) (x := (B a0 7)) (z := x2) hS5 p3
      refine y_ldk (ok := q_isA) (n := 0) (ck_at dt_Pr_add 28 rfl) rfl rfl (fun _ => rfl) rfl rfl ?_
      refine y_getF (r := a0 + 3) (K := 5) (j := 2) (a := a0) (ck_at dt_Pr_add 29 rfl) own_Pr_add (cf_at 11 rfl) rfl rfl ⟨(SH.o hS6 ha0), ?_⟩
      refine y_ldk (ok := q_isI) (n := 5) (ck_at dt_Pr_add 30 rfl) rfl rfl (fun _ => rfl) rfl rfl ?_
      refine y_ldk (ok := q_isI) (n := 3) (ck_at dt_Pr_add 31 rfl) rfl rfl (fun _ => rfl) rfl rfl ?_
      refine y_stat3V (k' := n_P_put) (n := 0) (as := [.ref (a0 + 3), iv (B a0 7), iv x3]) (r := []) (ck_at dt_Pr_add 32 rfl) own_Pr_add (cm_at 33 rfl) (cs_at 10 rfl) vk_P_put rfl nl_P_put rfl rfl rfl rfl  (Y_P_put (by omega) hS6 (SH.a hS6 (oa5 ha0 2 (by decide))) (by decide) (oa.lt (oa5 ha0 2 (by decide))) p3 p4 ⟨rfl, rfl⟩) ?_
      have hS7 := SH_u2 (b := (a0 + 3)) (x := (B a0 7)) (z := x3) hS6 p3
      refine y_ldk (ok := q_isA) (n := 0) (ck_at dt_Pr_add 33 rfl) rfl rfl (fun _ => rfl) rfl rfl ?_
      refine y_getF (r := a0 + 4) (K := 5) (j := 3) (a := a0) (ck_at dt_Pr_add 34 rfl) own_Pr_add (cf_at 12 rfl) rfl rfl ⟨(SH.o hS7 ha0), ?_⟩
      refine y_ldk (ok := q_isI) (n := 5) (ck_at dt_Pr_add 35 rfl) rfl rfl (fun _ => rfl) rfl rfl ?_
      refine y_op (ck_at dt_Pr_add 36 rfl) rfl (o_const _) ?_
      refine y_stat3V (k' := n_P_put) (n := 0) (as := [.ref (a0 + 4), iv (B a0 7), iv 0]) (r := []) (ck_at dt_Pr_add 37 rfl) own_Pr_add (cm_at 33 rfl) (cs_at 10 rfl) vk_P_put rfl nl_P_put rfl rfl rfl rfl  (Y_P_put (by omega) hS7 (SH.a hS7 (oa5 ha0 3 (by decide))) (by decide) (oa.lt (oa5 ha0 3 (by decide))) p3 p4 ⟨rfl, rfl⟩) ?_
      have hS8 := SH_u2 (b := (a0 + 4)) (x := (B a0 7)) (z := 0) hS7 p3
      refine y_ldk (ok := q_isA) (n := 0) (ck_at dt_Pr_add 38 rfl) rfl rfl (fun _ => rfl) rfl rfl ?_
      refine y_getF (r := a0 + 5) (K := 5) (j := 4) (a := a0) (ck_at dt_Pr_add 39 rfl) own_Pr_add (cf_at 13 rfl) rfl rfl ⟨(SH.o hS8 ha0), ?_⟩
      refine y_ldk (ok := q_isI) (n := 5) (ck_at dt_Pr_add 40 rfl) rfl rfl (fun _ => rfl) rfl rfl ?_
      refine y_ldk (ok := q_isI) (n := 4) (ck_at dt_Pr_add 41 rfl) rfl rfl (fun _ => rfl) rfl rfl ?_
      refine y_stat3V (k' := n_P_put) (n := 0) (as := [.ref (a0 + 5), iv (B a0 7), iv x4]) (r := []) (ck_at dt_Pr_add 42 rfl) own_Pr_add (cm_at 33 rfl) (cs_at 10 rfl) vk_P_put rfl nl_P_put rfl rfl rfl rfl  (Y_P_put (by omega) hS8 (SH.a hS8 (oa5 ha0 4 (by decide))) (by decide) (oa.lt (oa5 ha0 4 (by decide))) p3 p4 ⟨rfl, rfl⟩) ?_
      have hS9 := SH_u2 (b := (a0 + 5)) (x := (B a0 7)) (z := x4) hS8 p3
      refine y_ldk (ok := q_isA) (n := 0) (ck_at dt_Pr_add 43 rfl) rfl rfl (fun _ => rfl) rfl rfl ?_
      refine y_getF (r := a0 + 6) (K := 5) (j := 5) (a := a0) (ck_at dt_Pr_add 44 rfl) own_Pr_add (cf_at 14 rfl) rfl rfl ⟨(SH.o hS9 ha0), ?_⟩
      refine y_ldk (ok := q_isI) (n := 5) (ck_at dt_Pr_add 45 rfl) rfl rfl (fun _ => rfl) rfl rfl ?_
      refine y_ldk (ok := q_isA) (n := 0) (ck_at dt_Pr_add 46 rfl) rfl rfl (fun _ => rfl) rfl rfl ?_
      refine y_getI (K := 5) (j := 8) (a := a0) (ck_at dt_Pr_add 47 rfl) own_Pr_add (cf_at 20 rfl) rfl rfl rfl ⟨(SH.o hS9 ha0), ?_⟩
      refine y_stat3V (k' := n_P_put) (n := 0) (as := [.ref (a0 + 6), iv (B a0 7), iv ((u2 (u2 (u2 (u2 (u2 (u2 B a0 7 ((B a0 7) + 1)) (a0 + 1) (B a0 7) x1) (a0 + 2) (B a0 7) x2) (a0 + 3) (B a0 7) x3) (a0 + 4) (B a0 7) 0) (a0 + 5) (B a0 7) x4) a0 8)]) (r := []) (ck_at dt_Pr_add 48 rfl) own_Pr_add (cm_at 33 rfl) (cs_at 10 rfl) vk_P_put rfl nl_P_put rfl rfl rfl rfl  (Y_P_put (by omega) hS9 (SH.a hS9 (oa5 ha0 5 (by decide))) (by decide) (oa.lt (oa5 ha0 5 (by decide))) p3 p4 ⟨rfl, rfl⟩) ?_
      have hS10 := SH_u2 (b := (a0 + 6)) (x := (B a0 7)) (z := ((u2 (u2 (u2 (u2 (u2 (u2 B a0 7 ((B a0 7) + 1)) (a0 + 1) (B a0 7) x1) (a0 + 2) (B a0 7) x2) (a0 + 3) (B a0 7) x3) (a0 + 4) (B a0 7) 0) (a0 + 5) (B a0 7) x4) a0 8)) hS9 p3
      refine y_ldk (ok := q_isI) (n := 1) (ck_at dt_Pr_add 49 rfl) rfl rfl (fun _ => rfl) rfl rfl ?_
      refine y_op (ck_at dt_Pr_add 50 rfl) rfl (o_bipush _ (by decide)) ?_
      refine y_icmp (t := 123) (ck_at dt_Pr_add 51 rfl) rfl p11 ⟨by decide, by decide⟩ ?_ ?_
      · intro q; have w := w.1 q
        exact y_wk (c_Pr_add_123_ok (by omega) hS10 ha0 w) ⟨rfl, ⟨rfl, trivial⟩⟩
      · intro q; have w := w.2 q
        refine y_ldk (ok := q_isI) (n := 1) (ck_at dt_Pr_add 52 rfl) rfl rfl (fun _ => rfl) rfl rfl ?_
        refine y_op (ck_at dt_Pr_add 53 rfl) rfl (o_bipush _ (by decide)) ?_
        refine y_icmp (t := 123) (ck_at dt_Pr_add 54 rfl) rfl p11 ⟨by decide, by decide⟩ ?_ ?_
        · intro q; have w := w.1 q
          exact y_wk (c_Pr_add_123_ok (by omega) hS10 ha0 w) ⟨rfl, ⟨rfl, trivial⟩⟩
        · intro q; have w := w.2 q
          refine y_ldk (ok := q_isI) (n := 1) (ck_at dt_Pr_add 55 rfl) rfl rfl (fun _ => rfl) rfl rfl ?_
          refine y_op (ck_at dt_Pr_add 56 rfl) rfl (o_bipush _ (by decide)) ?_
          refine y_icmp (t := 123) (ck_at dt_Pr_add 57 rfl) rfl p11 ⟨by decide, by decide⟩ ?_ ?_
          · intro q; have w := w.1 q
            exact y_wk (c_Pr_add_123_ok (by omega) hS10 ha0 w) ⟨rfl, ⟨rfl, trivial⟩⟩
          · intro q; have w := w.2 q
            refine y_ldk (ok := q_isI) (n := 1) (ck_at dt_Pr_add 58 rfl) rfl rfl (fun _ => rfl) rfl rfl ?_
            refine y_op (ck_at dt_Pr_add 59 rfl) rfl (o_bipush _ (by decide)) ?_
            refine y_icmp (t := 133) (ck_at dt_Pr_add 60 rfl) rfl p11 ⟨by decide, by decide⟩ ?_ ?_
            · intro q; have w := w.1 q
              refine y_ldk (ok := q_isI) (n := 5) (ck_at dt_Pr_add 67 rfl) rfl rfl (fun _ => rfl) rfl rfl ?_
              exact y_retI (ck_at dt_Pr_add 68 rfl) rt_Pr_add w
            · intro q; have w := w.2 q
              exact y_wk (c_Pr_add_123_ok (by omega) hS10 ha0 w) ⟨rfl, ⟨rfl, trivial⟩⟩
    · intro q; have w := w.2 q
      refine y_op (ck_at dt_Pr_add 7 rfl) rfl (o_const _) ?_
      exact y_retI (ck_at dt_Pr_add 8 rfl) rt_Pr_add w
/-! PatternTrier$Program.branch(III)V -/
def t_Pr_branch : List (Nat × Instr × Nat) := [(0, .aload_n 0, 1), (1, .getfield 18, 3), (4, .iload_n 1, 1), (5, .iload_n 2, 1), (6, .invokestatic 57, 3), (9, .aload_n 0, 1), (10, .getfield 21, 3), (13, .iload_n 1, 1), (14, .iload_n 3, 1), (15, .invokestatic 57, 3), (18, .return_, 1)]
set_option maxRecDepth 100000 in
theorem dt_Pr_branch : q_ck n_Pr_branch t_Pr_branch = true := by decide +kernel
def c_Pr_branch_0 (h1 : qH) (d : Nat) (a0 : Nat) (x1 : Int) (x2 : Int) (x3 : Int) (B : qB) (Q : qO → qB → Prop) : Prop := 0 ≤ x1 ∧ x1 < 608 ∧ Q (.inl none) (u2 (u2 B (a0 + 3) x1 x2) (a0 + 4) x1 x3)
theorem c_Pr_branch_0_ok {h1 : qH} {d : Nat} {a0 : Nat} {x1 : Int} {x2 : Int} {x3 : Int} {B : qB} {Q : qO → qB → Prop} (hd : 1 ≤ d) (hS : SH B) (ha0 : ob 5 a0) (w : c_Pr_branch_0 h1 d a0 x1 x2 x3 B Q) : qY h1 (d + 1) n_Pr_branch 0 [some (.ref a0), some (iv x1), some (iv x2), some (iv x3)] [] B Q := by
  unfold c_Pr_branch_0 at w
  obtain ⟨p1, p2, w⟩ := w
  refine y_ldk (ok := q_isA) (n := 0) (ck_at dt_Pr_branch 0 rfl) rfl rfl (fun _ => rfl) rfl rfl ?_
  refine y_getF (r := a0 + 3) (K := 5) (j := 2) (a := a0) (ck_at dt_Pr_branch 1 rfl) own_Pr_branch (cf_at 11 rfl) rfl rfl ⟨(SH.o hS ha0), ?_⟩
  refine y_ldk (ok := q_isI) (n := 1) (ck_at dt_Pr_branch 2 rfl) rfl rfl (fun _ => rfl) rfl rfl ?_
  refine y_ldk (ok := q_isI) (n := 2) (ck_at dt_Pr_branch 3 rfl) rfl rfl (fun _ => rfl) rfl rfl ?_
  refine y_stat3V (k' := n_P_put) (n := 0) (as := [.ref (a0 + 3), iv x1, iv x2]) (r := []) (ck_at dt_Pr_branch 4 rfl) own_Pr_branch (cm_at 33 rfl) (cs_at 10 rfl) vk_P_put rfl nl_P_put rfl rfl rfl rfl  (Y_P_put (by omega) hS (SH.a hS (oa5 ha0 2 (by decide))) (by decide) (oa.lt (oa5 ha0 2 (by decide))) p1 p2 ⟨rfl, rfl⟩) ?_
  have hS3 := SH_u2 (b := (a0 + 3)) (x := x1) (z := x2) hS p1
  refine y_ldk (ok := q_isA) (n := 0) (ck_at dt_Pr_branch 5 rfl) rfl rfl (fun _ => rfl) rfl rfl ?_
  refine y_getF (r := a0 + 4) (K := 5) (j := 3) (a := a0) (ck_at dt_Pr_branch 6 rfl) own_Pr_branch (cf_at 12 rfl) rfl rfl ⟨(SH.o hS3 ha0), ?_⟩
  refine y_ldk (ok := q_isI) (n := 1) (ck_at dt_Pr_branch 7 rfl) rfl rfl (fun _ => rfl) rfl rfl ?_
  refine y_ldk (ok := q_isI) (n := 3) (ck_at dt_Pr_branch 8 rfl) rfl rfl (fun _ => rfl) rfl rfl ?_
  refine y_stat3V (k' := n_P_put) (n := 0) (as := [.ref (a0 + 4), iv x1, iv x3]) (r := []) (ck_at dt_Pr_branch 9 rfl) own_Pr_branch (cm_at 33 rfl) (cs_at 10 rfl) vk_P_put rfl nl_P_put rfl rfl rfl rfl  (Y_P_put (by omega) hS3 (SH.a hS3 (oa5 ha0 3 (by decide))) (by decide) (oa.lt (oa5 ha0 3 (by decide))) p1 p2 ⟨rfl, rfl⟩) ?_
  have hS4 := SH_u2 (b := (a0 + 4)) (x := x1) (z := x3) hS3 p1
  exact y_ret0 (ck_at dt_Pr_branch 10 rfl) rt_Pr_branch w
/-! PatternTrier$Found.add(II)V -/
def t_Fo_add : List (Nat × Instr × Nat) := [(0, .aload_n 0, 1), (1, .getfield 9, 3), (4, .iconst 2, 1), (5, .aload_n 0, 1), (6, .getfield 15, 3), (9, .imul, 1), (10, .iload_n 1, 1), (11, .invokestatic 19, 3), (14, .aload_n 0, 1), (15, .getfield 9, 3), (18, .iconst 2, 1), (19, .aload_n 0, 1), (20, .getfield 15, 3), (23, .imul, 1), (24, .iconst 1, 1), (25, .iadd, 1), (26, .iload_n 2, 1), (27, .invokestatic 19, 3), (30, .aload_n 0, 1), (31, .dup, 1), (32, .getfield 15, 3), (35, .iconst 1, 1), (36, .iadd, 1), (37, .putfield 15, 3), (40, .return_, 1)]
set_option maxRecDepth 100000 in
theorem dt_Fo_add : q_ck n_Fo_add t_Fo_add = true := by decide +kernel
def c_Fo_add_0 (h1 : qH) (d : Nat) (a0 : Nat) (x1 : Int) (x2 : Int) (B : qB) (Q : qO → qB → Prop) : Prop := 0 ≤ (2 * (B a0 1)) ∧ (2 * (B a0 1)) < 602 ∧ 0 ≤ ((2 * ((u2 B (a0 + 1) (2 * (B a0 1)) x1) a0 1)) + 1) ∧ ((2 * ((u2 B (a0 + 1) (2 * (B a0 1)) x1) a0 1)) + 1) < 602 ∧ Q (.inl none) (u2 (u2 (u2 B (a0 + 1) (2 * (B a0 1)) x1) (a0 + 1) ((2 * ((u2 B (a0 + 1) (2 * (B a0 1)) x1) a0 1)) + 1) x2) a0 1 (((u2 (u2 B (a0 + 1) (2 * (B a0 1)) x1) (a0 + 1) ((2 * ((u2 B (a0 + 1) (2 * (B a0 1)) x1) a0 1)) + 1) x2) a0 1) + 1))
theorem c_Fo_add_0_ok {h1 : qH} {d : Nat} {a0 : Nat} {x1 : Int} {x2 : Int} {B : qB} {Q : qO → qB → Prop} (hd : 1 ≤ d) (hS : SH B) (ha0 : ob 3 a0) (w : c_Fo_add_0 h1 d a0 x1 x2 B Q) : qY h1 (d + 1) n_Fo_add 0 [some (.ref a0), some (iv x1), some (iv x2)] [] B Q := by
  unfold c_Fo_add_0 at w
  obtain ⟨p1, p2, p4, p5, w⟩ := w
  refine y_ldk (ok := q_isA) (n := 0) (ck_at dt_Fo_add 0 rfl) rfl rfl (fun _ => rfl) rfl rfl ?_
  refine y_getF (r := a0 + 1) (K := 3) (j := 0) (a := a0) (ck_at dt_Fo_add 1 rfl) own_Fo_add (cf_at 5 rfl) rfl rfl ⟨(SH.o hS ha0), ?_⟩
  refine y_op (ck_at dt_Fo_add 2 rfl) rfl (o_const _) ?_
  refine y_ldk (ok := q_isA) (n := 0) (ck_at dt_Fo_add 3 rfl) rfl rfl (fun _ => rfl) rfl rfl ?_
  refine y_getI (K := 3) (j := 1) (a := a0) (ck_at dt_Fo_add 4 rfl) own_Fo_add (cf_at 6 rfl) rfl rfl rfl ⟨(SH.o hS ha0), ?_⟩
  refine y_op (ck_at dt_Fo_add 5 rfl) rfl o_imul ?_
  refine y_ldk (ok := q_isI) (n := 1) (ck_at dt_Fo_add 6 rfl) rfl rfl (fun _ => rfl) rfl rfl ?_
  refine y_stat3V (k' := n_P_put) (n := 0) (as := [.ref (a0 + 1), iv (2 * (B a0 1)), iv x1]) (r := []) (ck_at dt_Fo_add 7 rfl) own_Fo_add (cm_at 25 rfl) (cs_at 3 rfl) vk_P_put rfl nl_P_put rfl rfl rfl rfl  (Y_P_put (by omega) hS (SH.a hS (oa3 ha0)) (by decide) (oa.lt (oa3 ha0)) p1 p2 ⟨rfl, rfl⟩) ?_
  have hS3 := SH_u2 (b := (a0 + 1)) (x := (2 * (B a0 1))) (z := x1) hS p1
  refine y_ldk (ok := q_isA) (n := 0) (ck_at dt_Fo_add 8 rfl) rfl rfl (fun _ => rfl) rfl rfl ?_
  refine y_getF (r := a0 + 1) (K := 3) (j := 0) (a := a0) (ck_at dt_Fo_add 9 rfl) own_Fo_add (cf_at 5 rfl) rfl rfl ⟨(SH.o hS3 ha0), ?_⟩
  refine y_op (ck_at dt_Fo_add 10 rfl) rfl (o_const _) ?_
  refine y_ldk (ok := q_isA) (n := 0) (ck_at dt_Fo_add 11 rfl) rfl rfl (fun _ => rfl) rfl rfl ?_
  refine y_getI (K := 3) (j := 1) (a := a0) (ck_at dt_Fo_add 12 rfl) own_Fo_add (cf_at 6 rfl) rfl rfl rfl ⟨(SH.o hS3 ha0), ?_⟩
  refine y_op (ck_at dt_Fo_add 13 rfl) rfl o_imul ?_
  refine y_op (ck_at dt_Fo_add 14 rfl) rfl (o_const _) ?_
  refine y_op (ck_at dt_Fo_add 15 rfl) rfl o_iadd ?_
  refine y_ldk (ok := q_isI) (n := 2) (ck_at dt_Fo_add 16 rfl) rfl rfl (fun _ => rfl) rfl rfl ?_
  refine y_stat3V (k' := n_P_put) (n := 0) (as := [.ref (a0 + 1), iv ((2 * ((u2 B (a0 + 1) (2 * (B a0 1)) x1) a0 1)) + 1), iv x2]) (r := []) (ck_at dt_Fo_add 17 rfl) own_Fo_add (cm_at 25 rfl) (cs_at 3 rfl) vk_P_put rfl nl_P_put rfl rfl rfl rfl  (Y_P_put (by omega) hS3 (SH.a hS3 (oa3 ha0)) (by decide) (oa.lt (oa3 ha0)) p4 p5 ⟨rfl, rfl⟩) ?_
  have hS6 := SH_u2 (b := (a0 + 1)) (x := ((2 * ((u2 B (a0 + 1) (2 * (B a0 1)) x1) a0 1)) + 1)) (z := x2) hS3 p4
  refine y_ldk (ok := q_isA) (n := 0) (ck_at dt_Fo_add 18 rfl) rfl rfl (fun _ => rfl) rfl rfl ?_
  refine y_op (ck_at dt_Fo_add 19 rfl) rfl rfl ?_
  refine y_getI (K := 3) (j := 1) (a := a0) (ck_at dt_Fo_add 20 rfl) own_Fo_add (cf_at 6 rfl) rfl rfl rfl ⟨(SH.o hS6 ha0), ?_⟩
  refine y_op (ck_at dt_Fo_add 21 rfl) rfl (o_const _) ?_
  refine y_op (ck_at dt_Fo_add 22 rfl) rfl o_iadd ?_
  refine y_putI (K := 3) (j := 1) (a := a0) (ck_at dt_Fo_add 23 rfl) own_Fo_add (cf_at 6 rfl) rfl rfl rfl rfl rfl ⟨⟨SH.o hS6 ha0, ob.lt ha0⟩, ?_⟩
  have hS7 := SH_u2 (b := a0) (x := 1) (z := ((u2 (u2 B (a0 + 1) (2 * (B a0 1)) x1) (a0 + 1) ((2 * ((u2 B (a0 + 1) (2 * (B a0 1)) x1) a0 1)) + 1) x2) a0 1) + 1) hS6 (by decide)
  exact y_ret0 (ck_at dt_Fo_add 24 rfl) rt_Fo_add w
/-! PatternTrier$Found.bound(II)I -/
def t_Fo_bound : List (Nat × Instr × Nat) := [(0, .aload_n 0, 1), (1, .getfield 9, 3), (4, .iconst 2, 1), (5, .iload_n 1, 1), (6, .imul, 1), (7, .iload_n 2, 1), (8, .iadd, 1), (9, .invokestatic 23, 3), (12, .ireturn, 1)]
set_option maxRecDepth 100000 in
theorem dt_Fo_bound : q_ck n_Fo_bound t_Fo_bound = true := by decide +kernel
def c_Fo_bound_0 (h1 : qH) (d : Nat) (a0 : Nat) (x1 : Int) (x2 : Int) (B : qB) (Q : qO → qB → Prop) : Prop := 0 ≤ ((2 * x1) + x2) ∧ ((2 * x1) + x2) < 602 ∧ Q (.inl (some (iv (B (a0 + 1) ((2 * x1) + x2))))) B
theorem c_Fo_bound_0_ok {h1 : qH} {d : Nat} {a0 : Nat} {x1 : Int} {x2 : Int} {B : qB} {Q : qO → qB → Prop} (hd : 1 ≤ d) (hS : SH B) (ha0 : ob 3 a0) (w : c_Fo_bound_0 h1 d a0 x1 x2 B Q) : qY h1 (d + 1) n_Fo_bound 0 [some (.ref a0), some (iv x1), some (iv x2)] [] B Q := by
  unfold c_Fo_bound_0 at w
  obtain ⟨p1, p2, w⟩ := w
  refine y_ldk (ok := q_isA) (n := 0) (ck_at dt_Fo_bound 0 rfl) rfl rfl (fun _ => rfl) rfl rfl ?_
  refine y_getF (r := a0 + 1) (K := 3) (j := 0) (a := a0) (ck_at dt_Fo_bound 1 rfl) own_Fo_bound (cf_at 5 rfl) rfl rfl ⟨(SH.o hS ha0), ?_⟩
  refine y_op (ck_at dt_Fo_bound 2 rfl) rfl (o_const _) ?_
  refine y_ldk (ok := q_isI) (n := 1) (ck_at dt_Fo_bound 3 rfl) rfl rfl (fun _ => rfl) rfl rfl ?_
  refine y_op (ck_at dt_Fo_bound 4 rfl) rfl o_imul ?_
  refine y_ldk (ok := q_isI) (n := 2) (ck_at dt_Fo_bound 5 rfl) rfl rfl (fun _ => rfl) rfl rfl ?_
  refine y_op (ck_at dt_Fo_bound 6 rfl) rfl o_iadd ?_
  refine y_stat3P (k' := n_P_cell) (n := 0) (as := [.ref (a0 + 1), iv ((2 * x1) + x2)]) (r := []) (ck_at dt_Fo_bound 7 rfl) own_Fo_bound (cm_at 26 rfl) (cs_at 4 rfl) vk_P_cell rfl nl_P_cell rfl rfl rfl rfl  (Y_P_cell (by omega) hS (SH.a hS (oa3 ha0)) (by decide) p1 p2 ⟨rfl, rfl⟩) ?_
  exact y_retI (ck_at dt_Fo_bound 8 rfl) rt_Fo_bound w
/-! PatternTrier$Walker.isWord(I)Z -/
def t_Wa_isWord : List (Nat × Instr × Nat) := [(0, .iload_n 0, 1), (1, .invokestatic 167, 3), (4, .ifCond .ne 16, 3), (7, .iload_n 0, 1), (8, .invokestatic 170, 3), (11, .ifCond .ne 9, 3), (14, .iload_n 0, 1), (15, .bipush 95, 2), (17, .if_icmp .ne 7, 3), (20, .iconst 1, 1), (21, .goto 4, 3), (24, .iconst 0, 1), (25, .ireturn, 1)]
set_option maxRecDepth 100000 in
theorem dt_Wa_isWord : q_ck n_Wa_isWord t_Wa_isWord = true := by decide +kernel
def c_Wa_isWord_0 (h1 : qH) (d : Nat) (x0 : Int) (B : qB) (Q : qO → qB → Prop) : Prop := R32 x0 ∧ (¬ bi (isLt x0) = 0 → Q (.inl (some (iv 1))) B) ∧ (bi (isLt x0) = 0 → (¬ bi (isDg x0) = 0 → Q (.inl (some (iv 1))) B) ∧ (bi (isDg x0) = 0 → (¬ x0 = 95 → Q (.inl (some (iv 0))) B) ∧ (x0 = 95 → Q (.inl (some (iv 1))) B)))
theorem c_Wa_isWord_0_ok {h1 : qH} {d : Nat} {x0 : Int} {B : qB} {Q : qO → qB → Prop} (hd : 1 ≤ d) (hS : SH B) (w : c_Wa_isWord_0 h1 d x0 B Q) : qY h1 (d + 1) n_Wa_isWord 0 [some (iv x0)] [] B Q := by
  unfold c_Wa_isWord_0 at w
  obtain ⟨p1, w⟩ := w
  refine y_ldk (ok := q_isI) (n := 0) (ck_at dt_Wa_isWord 0 rfl) rfl rfl (fun _ => rfl) rfl rfl ?_
  refine y_stat3P (k' := n_P_isLetter) (n := 0) (as := [iv x0]) (r := []) (ck_at dt_Wa_isWord 1 rfl) own_Wa_isWord (cm_at 115 rfl) (cs_at 24 rfl) vk_P_isLetter rfl nl_P_isLetter rfl rfl rfl rfl  (Y_P_isLetter (by omega) hS p1 ⟨rfl, rfl⟩) ?_
  refine y_ifz (t := 20) (ck_at dt_Wa_isWord 2 rfl) rfl (R32_bi _) ?_ ?_
  · intro q; have w := w.1 q
    refine y_op (ck_at dt_Wa_isWord 9 rfl) rfl (o_const _) ?_
    refine y_goto (t := 25) (ck_at dt_Wa_isWord 10 rfl) rfl ?_
    exact y_retZ (ck_at dt_Wa_isWord 12 rfl) rt_Wa_isWord (by decide) w
  · intro q; have w := w.2 q
    refine y_ldk (ok := q_isI) (n := 0) (ck_at dt_Wa_isWord 3 rfl) rfl rfl (fun _ => rfl) rfl rfl ?_
    refine y_stat3P (k' := n_P_isDigit_IZ) (n := 0) (as := [iv x0]) (r := []) (ck_at dt_Wa_isWord 4 rfl) own_Wa_isWord (cm_at 116 rfl) (cs_at 25 rfl) vk_P_isDigit_IZ rfl nl_P_isDigit_IZ rfl rfl rfl rfl  (Y_P_isDigit_IZ (by omega) hS p1 ⟨rfl, rfl⟩) ?_
    refine y_ifz (t := 20) (ck_at dt_Wa_isWord 5 rfl) rfl (R32_bi _) ?_ ?_
    · intro q; have w := w.1 q
      refine y_op (ck_at dt_Wa_isWord 9 rfl) rfl (o_const _) ?_
      refine y_goto (t := 25) (ck_at dt_Wa_isWord 10 rfl) rfl ?_
      exact y_retZ (ck_at dt_Wa_isWord 12 rfl) rt_Wa_isWord (by decide) w
    · intro q; have w := w.2 q
      refine y_ldk (ok := q_isI) (n := 0) (ck_at dt_Wa_isWord 6 rfl) rfl rfl (fun _ => rfl) rfl rfl ?_
      refine y_op (ck_at dt_Wa_isWord 7 rfl) rfl (o_bipush _ (by decide)) ?_
      refine y_icmp (t := 24) (ck_at dt_Wa_isWord 8 rfl) rfl p1 ⟨by decide, by decide⟩ ?_ ?_
      · intro q; have w := w.1 q
        refine y_op (ck_at dt_Wa_isWord 11 rfl) rfl (o_const _) ?_
        exact y_retZ (ck_at dt_Wa_isWord 12 rfl) rt_Wa_isWord (by decide) w
      · intro q; have w := w.2 q
        refine y_op (ck_at dt_Wa_isWord 9 rfl) rfl (o_const _) ?_
        refine y_goto (t := 25) (ck_at dt_Wa_isWord 10 rfl) rfl ?_
        exact y_retZ (ck_at dt_Wa_isWord 12 rfl) rt_Wa_isWord (by decide) w
/-! PatternTrier$Walker.placeBehind()I -/
def t_Wa_placeBehind : List (Nat × Instr × Nat) := [(0, .aload_n 0, 1), (1, .iconst 1, 1), (2, .invokevirtual 87, 3), (5, .aload_n 0, 1), (6, .iconst 0, 1), (7, .invokevirtual 87, 3), (10, .if_icmp .le 11, 3), (13, .aload_n 0, 1), (14, .iconst 1, 1), (15, .invokevirtual 87, 3), (18, .goto 10, 3), (21, .aload_n 0, 1), (22, .iconst 1, 1), (23, .invokevirtual 87, 3), (26, .iconst 1, 1), (27, .iadd, 1), (28, .ireturn, 1)]
set_option maxRecDepth 100000 in
theorem dt_Wa_placeBehind : q_ck n_Wa_placeBehind t_Wa_placeBehind = true := by decide +kernel
def c_Wa_placeBehind_0 (h1 : qH) (d : Nat) (B : qB) (Q : qO → qB → Prop) : Prop := R32 (B 107 1) ∧ R32 (B 107 0) ∧ (B 107 1 ≤ B 107 0 → Q (.inl (some (iv ((B 107 1) + 1)))) B) ∧ (B 107 1 > B 107 0 → Q (.inl (some (iv (B 107 1)))) B)
theorem c_Wa_placeBehind_0_ok {h1 : qH} {d : Nat} {B : qB} {Q : qO → qB → Prop} (hd : 1 ≤ d) (hS : SH B) (w : c_Wa_placeBehind_0 h1 d B Q) : qY h1 (d + 1) n_Wa_placeBehind 0 [some (.ref 102)] [] B Q := by
  unfold c_Wa_placeBehind_0 at w
  obtain ⟨p1, p2, w⟩ := w
  refine y_ldk (ok := q_isA) (n := 0) (ck_at dt_Wa_placeBehind 0 rfl) rfl rfl (fun _ => rfl) rfl rfl ?_
  refine y_op (ck_at dt_Wa_placeBehind 1 rfl) rfl (o_const _) ?_
  refine y_virtP (k' := n_Wa_mark) (n := 0) (as := [iv 1]) (r := []) (ck_at dt_Wa_placeBehind 2 rfl) own_Wa_placeBehind (cm_at 93 rfl) vk_Wa_mark rfl nl_Wa_mark rfl rfl rfl rfl (SH.o hS ⟨by decide, by decide, by decide⟩) (Y_Wa_mark (by omega) hS (by decide) (by decide) ⟨rfl, rfl⟩) ?_
  refine y_ldk (ok := q_isA) (n := 0) (ck_at dt_Wa_placeBehind 3 rfl) rfl rfl (fun _ => rfl) rfl rfl ?_
  refine y_op (ck_at dt_Wa_placeBehind 4 rfl) rfl (o_const _) ?_
  refine y_virtP (k' := n_Wa_mark) (n := 0) (as := [iv 0]) (r := [iv (B 107 1)]) (ck_at dt_Wa_placeBehind 5 rfl) own_Wa_placeBehind (cm_at 93 rfl) vk_Wa_mark rfl nl_Wa_mark rfl rfl rfl rfl (SH.o hS ⟨by decide, by decide, by decide⟩) (Y_Wa_mark (by omega) hS (by decide) (by decide) ⟨rfl, rfl⟩) ?_
  refine y_icmp (t := 21) (ck_at dt_Wa_placeBehind 6 rfl) rfl p1 p2 ?_ ?_
  · intro q; have w := w.1 q
    refine y_ldk (ok := q_isA) (n := 0) (ck_at dt_Wa_placeBehind 11 rfl) rfl rfl (fun _ => rfl) rfl rfl ?_
    refine y_op (ck_at dt_Wa_placeBehind 12 rfl) rfl (o_const _) ?_
    refine y_virtP (k' := n_Wa_mark) (n := 0) (as := [iv 1]) (r := []) (ck_at dt_Wa_placeBehind 13 rfl) own_Wa_placeBehind (cm_at 93 rfl) vk_Wa_mark rfl nl_Wa_mark rfl rfl rfl rfl (SH.o hS ⟨by decide, by decide, by decide⟩) (Y_Wa_mark (by omega) hS (by decide) (by decide) ⟨rfl, rfl⟩) ?_
    refine y_op (ck_at dt_Wa_placeBehind 14 rfl) rfl (o_const _) ?_
    refine y_op (ck_at dt_Wa_placeBehind 15 rfl) rfl o_iadd ?_
    exact y_retI (ck_at dt_Wa_placeBehind 16 rfl) rt_Wa_placeBehind w
  · intro q; have w := w.2 q
    refine y_ldk (ok := q_isA) (n := 0) (ck_at dt_Wa_placeBehind 7 rfl) rfl rfl (fun _ => rfl) rfl rfl ?_
    refine y_op (ck_at dt_Wa_placeBehind 8 rfl) rfl (o_const _) ?_
    refine y_virtP (k' := n_Wa_mark) (n := 0) (as := [iv 1]) (r := []) (ck_at dt_Wa_placeBehind 9 rfl) own_Wa_placeBehind (cm_at 93 rfl) vk_Wa_mark rfl nl_Wa_mark rfl rfl rfl rfl (SH.o hS ⟨by decide, by decide, by decide⟩) (Y_Wa_mark (by omega) hS (by decide) (by decide) ⟨rfl, rfl⟩) ?_
    refine y_goto (t := 28) (ck_at dt_Wa_placeBehind 10 rfl) rfl ?_
    exact y_retI (ck_at dt_Wa_placeBehind 16 rfl) rt_Wa_placeBehind w
/-! PatternTrier$Walker.pass()Z -/
def t_Wa_pass : List (Nat × Instr × Nat) := [(0, .aload_n 0, 1), (1, .aload_n 0, 1), (2, .getfield 29, 3), (5, .aload_n 0, 1), (6, .getfield 92, 3), (9, .invokevirtual 145, 3), (12, .putfield 92, 3), (15, .iconst 1, 1), (16, .ireturn, 1)]
set_option maxRecDepth 100000 in
theorem dt_Wa_pass : q_ck n_Wa_pass t_Wa_pass = true := by decide +kernel
def c_Wa_pass_0 (h1 : qH) (d : Nat) (B : qB) (Q : qO → qB → Prop) : Prop := ob 5 ((B 102 3).toNat) ∧ 0 ≤ (B 102 6) ∧ (B 102 6) < 608 ∧ Q (.inl (some (iv 1))) (u2 B 102 6 (B (((B 102 3).toNat) + 3) (B 102 6)))
theorem c_Wa_pass_0_ok {h1 : qH} {d : Nat} {B : qB} {Q : qO → qB → Prop} (hd : 1 ≤ d) (hS : SH B) (w : c_Wa_pass_0 h1 d B Q) : qY h1 (d + 1) n_Wa_pass 0 [some (.ref 102)] [] B Q := by
  unfold c_Wa_pass_0 at w
  obtain ⟨p1, p2, p3, w⟩ := w
  refine y_ldk (ok := q_isA) (n := 0) (ck_at dt_Wa_pass 0 rfl) rfl rfl (fun _ => rfl) rfl rfl ?_
  refine y_ldk (ok := q_isA) (n := 0) (ck_at dt_Wa_pass 1 rfl) rfl rfl (fun _ => rfl) rfl rfl ?_
  refine y_getD (K := 9) (j := 3) (a := 102) (ck_at dt_Wa_pass 2 rfl) own_Wa_pass (cf_at 44 rfl) rfl rfl rfl ⟨(SH.o hS ⟨by decide, by decide, by decide⟩), ?_⟩
  refine y_ldk (ok := q_isA) (n := 0) (ck_at dt_Wa_pass 3 rfl) rfl rfl (fun _ => rfl) rfl rfl ?_
  refine y_getI (K := 9) (j := 6) (a := 102) (ck_at dt_Wa_pass 4 rfl) own_Wa_pass (cf_at 47 rfl) rfl rfl rfl ⟨(SH.o hS ⟨by decide, by decide, by decide⟩), ?_⟩
  refine y_virtP (k' := n_Pr_nextOf) (n := 0) (as := [iv (B 102 6)]) (r := [.ref 102]) (ck_at dt_Wa_pass 5 rfl) own_Wa_pass (cm_at 108 rfl) vk_Pr_nextOf rfl nl_Pr_nextOf rfl rfl rfl rfl (SH.o hS p1) (Y_Pr_nextOf (by omega) hS p1 p2 p3 ⟨rfl, rfl⟩) ?_
  refine y_putI (K := 9) (j := 6) (a := 102) (ck_at dt_Wa_pass 6 rfl) own_Wa_pass (cf_at 47 rfl) rfl rfl rfl rfl rfl ⟨⟨SH.o hS ⟨by decide, by decide, by decide⟩, by decide⟩, ?_⟩
  have hS4 := SH_u2 (b := 102) (x := 6) (z := B (((B 102 3).toNat) + 3) (B 102 6)) hS (by decide)
  refine y_op (ck_at dt_Wa_pass 7 rfl) rfl (o_const _) ?_
  exact y_retZ (ck_at dt_Wa_pass 8 rfl) rt_Wa_pass (by decide) w
/-! PatternTrier$Walker.key(II)I -/
def t_Wa_key : List (Nat × Instr × Nat) := [(0, .aload_n 0, 1), (1, .getfield 29, 3), (4, .iload_n 1, 1), (5, .invokevirtual 173, 3), (8, .aload_n 0, 1), (9, .getfield 33, 3), (12, .invokevirtual 47, 3), (15, .iconst 1, 1), (16, .iadd, 1), (17, .imul, 1), (18, .iload_n 2, 1), (19, .iadd, 1), (20, .ireturn, 1)]
set_option maxRecDepth 100000 in
theorem dt_Wa_key : q_ck n_Wa_key t_Wa_key = true := by decide +kernel
def c_Wa_key_0 (h1 : qH) (d : Nat) (x1 : Int) (x2 : Int) (B : qB) (Q : qO → qB → Prop) : Prop := ob 5 ((B 102 3).toNat) ∧ 0 ≤ x1 ∧ x1 < 608 ∧ ob 1 ((B 102 4).toNat) ∧ Q (.inl (some (iv (((B (((B 102 3).toNat) + 6) x1) * ((B ((B 102 4).toNat) 1) + 1)) + x2)))) B
theorem c_Wa_key_0_ok {h1 : qH} {d : Nat} {x1 : Int} {x2 : Int} {B : qB} {Q : qO → qB → Prop} (hd : 1 ≤ d) (hS : SH B) (w : c_Wa_key_0 h1 d x1 x2 B Q) : qY h1 (d + 1) n_Wa_key 0 [some (.ref 102), some (iv x1), some (iv x2)] [] B Q := by
  unfold c_Wa_key_0 at w
  obtain ⟨p1, p2, p3, p4, w⟩ := w
  refine y_ldk (ok := q_isA) (n := 0) (ck_at dt_Wa_key 0 rfl) rfl rfl (fun _ => rfl) rfl rfl ?_
  refine y_getD (K := 9) (j := 3) (a := 102) (ck_at dt_Wa_key 1 rfl) own_Wa_key (cf_at 44 rfl) rfl rfl rfl ⟨(SH.o hS ⟨by decide, by decide, by decide⟩), ?_⟩
  refine y_ldk (ok := q_isI) (n := 1) (ck_at dt_Wa_key 2 rfl) rfl rfl (fun _ => rfl) rfl rfl ?_
  refine y_virtP (k' := n_Pr_slotOf) (n := 0) (as := [iv x1]) (r := []) (ck_at dt_Wa_key 3 rfl) own_Wa_key (cm_at 117 rfl) vk_Pr_slotOf rfl nl_Pr_slotOf rfl rfl rfl rfl (SH.o hS p1) (Y_Pr_slotOf (by omega) hS p1 p2 p3 ⟨rfl, rfl⟩) ?_
  refine y_ldk (ok := q_isA) (n := 0) (ck_at dt_Wa_key 4 rfl) rfl rfl (fun _ => rfl) rfl rfl ?_
  refine y_getD (K := 9) (j := 4) (a := 102) (ck_at dt_Wa_key 5 rfl) own_Wa_key (cf_at 45 rfl) rfl rfl rfl ⟨(SH.o hS ⟨by decide, by decide, by decide⟩), ?_⟩
  refine y_virtP (k' := n_By_size) (n := 0) (as := []) (r := [iv (B (((B 102 3).toNat) + 6) x1)]) (ck_at dt_Wa_key 6 rfl) own_Wa_key (cm_at 86 rfl) vk_By_size rfl nl_By_size rfl rfl rfl rfl (SH.o hS p4) (Y_By_size (by omega) hS p4 ⟨rfl, rfl⟩) ?_
  refine y_op (ck_at dt_Wa_key 7 rfl) rfl (o_const _) ?_
  refine y_op (ck_at dt_Wa_key 8 rfl) rfl o_iadd ?_
  refine y_op (ck_at dt_Wa_key 9 rfl) rfl o_imul ?_
  refine y_ldk (ok := q_isI) (n := 2) (ck_at dt_Wa_key 10 rfl) rfl rfl (fun _ => rfl) rfl rfl ?_
  refine y_op (ck_at dt_Wa_key 11 rfl) rfl o_iadd ?_
  exact y_retI (ck_at dt_Wa_key 12 rfl) rt_Wa_key w
/-! PatternTrier$Reader.bracketKind()I -/
def t_Re_bracketKind : List (Nat × Instr × Nat) := [(0, .aload_n 0, 1), (1, .iconst 1, 1), (2, .invokevirtual 47, 3), (5, .bipush 63, 2), (7, .if_icmp .eq 6, 3), (10, .bipush 9, 2), (12, .ireturn, 1), (13, .aload_n 0, 1), (14, .iconst 2, 1), (15, .invokevirtual 47, 3), (18, .lookupswitch 43 #[(33, 40), (58, 34), (61, 37)], 34), (52, .bipush 10, 2), (54, .ireturn, 1), (55, .bipush 7, 2), (57, .ireturn, 1), (58, .bipush 8, 2), (60, .ireturn, 1), (61, .iconst (-1), 1), (62, .ireturn, 1)]
set_option maxRecDepth 100000 in
theorem dt_Re_bracketKind : q_ck n_Re_bracketKind t_Re_bracketKind = true := by decide +kernel
def c_Re_bracketKind_0 (h1 : qH) (d : Nat) (B : qB) (Q : qO → qB → Prop) : Prop := RI B ∧ R32 (sgC B (B 100 2 + 1)) ∧ (sgC B (B 100 2 + 1) = 63 → R32 (sgC B (B 100 2 + 2)) ∧ (sgC B (B 100 2 + 2) = 33 → Q (.inl (some (iv 8))) B) ∧ (sgC B (B 100 2 + 2) = 58 → Q (.inl (some (iv 10))) B) ∧ (sgC B (B 100 2 + 2) = 61 → Q (.inl (some (iv 7))) B) ∧ (¬ sgC B (B 100 2 + 2) = 33 → ¬ sgC B (B 100 2 + 2) = 58 → ¬ sgC B (B 100 2 + 2) = 61 → Q (.inl (some (iv (-1)))) B)) ∧ (¬ sgC B (B 100 2 + 1) = 63 → Q (.inl (some (iv 9))) B)
theorem c_Re_bracketKind_0_ok {h1 : qH} {d : Nat} {B : qB} {Q : qO → qB → Prop} (hd : 2 ≤ d) (hS : SH B) (w : c_Re_bracketKind_0 h1 d B Q) : qY h1 (d + 1) n_Re_bracketKind 0 [some (.ref 100)] [] B Q := by
  unfold c_Re_bracketKind_0 at w
  obtain ⟨p1, p2, w⟩ := w
  refine y_ldk (ok := q_isA) (n := 0) (ck_at dt_Re_bracketKind 0 rfl) rfl rfl (fun _ => rfl) rfl rfl ?_
  refine y_op (ck_at dt_Re_bracketKind 1 rfl) rfl (o_const _) ?_
  refine y_virtP (k' := n_Re_see) (n := 2) (as := [iv 1]) (r := []) (ck_at dt_Re_bracketKind 2 rfl) own_Re_bracketKind (cm_at 41 rfl) vk_Re_see rfl nl_Re_see rfl rfl rfl rfl (SH.o hS ⟨by decide, by decide, by decide⟩) (Y_Re_see (by omega) hS p1 (by decide) (by decide) ⟨rfl, rfl⟩) ?_
  refine y_op (ck_at dt_Re_bracketKind 3 rfl) rfl (o_bipush _ (by decide)) ?_
  refine y_icmp (t := 13) (ck_at dt_Re_bracketKind 4 rfl) rfl p2 ⟨by decide, by decide⟩ ?_ ?_
  · intro q; have w := w.1 q
    obtain ⟨p3, w⟩ := w
    refine y_ldk (ok := q_isA) (n := 0) (ck_at dt_Re_bracketKind 7 rfl) rfl rfl (fun _ => rfl) rfl rfl ?_
    refine y_op (ck_at dt_Re_bracketKind 8 rfl) rfl (o_const _) ?_
    refine y_virtP (k' := n_Re_see) (n := 2) (as := [iv 2]) (r := []) (ck_at dt_Re_bracketKind 9 rfl) own_Re_bracketKind (cm_at 41 rfl) vk_Re_see rfl nl_Re_see rfl rfl rfl rfl (SH.o hS ⟨by decide, by decide, by decide⟩) (Y_Re_see (by omega) hS p1 (by decide) (by decide) ⟨rfl, rfl⟩) ?_
    have hx := p3
    by_cases q0 : sgC B (B 100 2 + 2) = 33
    · have w := w.1 q0
      refine y_swc (c := 33) (t := 58) (ck_at dt_Re_bracketKind 10 rfl) rfl (fun _ => rfl) (fun _ _ => rfl) q0 rfl ?_
      refine y_op (ck_at dt_Re_bracketKind 15 rfl) rfl (o_bipush _ (by decide)) ?_
      exact y_retI (ck_at dt_Re_bracketKind 16 rfl) rt_Re_bracketKind w
    by_cases q1 : sgC B (B 100 2 + 2) = 58
    · have w := w.2.1 q1
      refine y_swc (c := 58) (t := 52) (ck_at dt_Re_bracketKind 10 rfl) rfl (fun _ => rfl) (fun _ _ => rfl) q1 rfl ?_
      refine y_op (ck_at dt_Re_bracketKind 11 rfl) rfl (o_bipush _ (by decide)) ?_
      exact y_retI (ck_at dt_Re_bracketKind 12 rfl) rt_Re_bracketKind w
    by_cases q2 : sgC B (B 100 2 + 2) = 61
    · have w := w.2.2.1 q2
      refine y_swc (c := 61) (t := 55) (ck_at dt_Re_bracketKind 10 rfl) rfl (fun _ => rfl) (fun _ _ => rfl) q2 rfl ?_
      refine y_op (ck_at dt_Re_bracketKind 13 rfl) rfl (o_bipush _ (by decide)) ?_
      exact y_retI (ck_at dt_Re_bracketKind 14 rfl) rt_Re_bracketKind w
    have w := w.2.2.2 q0 q1 q2
    refine y_lswd (t := 61) (ck_at dt_Re_bracketKind 10 rfl) hx (by decide) (fun e he => ?_) rfl ?_
    · simp only [List.mem_cons, List.not_mem_nil, or_false] at he
      rcases he with rfl | rfl | rfl <;> assumption
    refine y_op (ck_at dt_Re_bracketKind 17 rfl) rfl (o_const _) ?_
    exact y_retI (ck_at dt_Re_bracketKind 18 rfl) rt_Re_bracketKind w
  · intro q; have w := w.2 q
    refine y_op (ck_at dt_Re_bracketKind 5 rfl) rfl (o_bipush _ (by decide)) ?_
    exact y_retI (ck_at dt_Re_bracketKind 6 rfl) rt_Re_bracketKind w
/-! PatternTrier$Tree.addRounds(IIII)I -/
def t_Tr_addRounds : List (Nat × Instr × Nat) := [(0, .aload_n 0, 1), (1, .iload_n 1, 1), (2, .invokevirtual 57, 3), (5, .istore 5, 2), (7, .iload_n 2, 1), (8, .iload 5, 2), (10, .imul, 1), (11, .istore 6, 2), (13, .iload 6, 2), (15, .iload_n 3, 1), (16, .iconst (-1), 1), (17, .if_icmp .ne 10, 3), (20, .iload 5, 2), (22, .iconst 1, 1), (23, .iadd, 1), (24, .goto 11, 3), (27, .iload_n 3, 1), (28, .iload_n 2, 1), (29, .isub, 1), (30, .iload 5, 2), (32, .iconst 1, 1), (33, .iadd, 1), (34, .imul, 1), (35, .iadd, 1), (36, .istore 6, 2), (38, .aload_n 0, 1), (39, .bipush 11, 2), (41, .iload 4, 2), (43, .iload_n 1, 1), (44, .iload 4, 2), (46, .iconst 2, 1), (47, .if_icmp .ne 10, 3), (50, .iload 6, 2), (52, .iconst 1, 1), (53, .iadd, 1), (54, .goto 5, 3), (57, .iload 6, 2), (59, .invokevirtual 61, 3), (62, .istore 7, 2), (64, .aload_n 0, 1), (65, .getfield 24, 3), (68, .iload 7, 2), (70, .iload_n 2, 1), (71, .invokestatic 47, 3), (74, .aload_n 0, 1), (75, .getfield 27, 3), (78, .iload 7, 2), (80, .iload_n 3, 1), (81, .invokestatic 47, 3), (84, .iload 7, 2), (86, .ireturn, 1)]
set_option maxRecDepth 100000 in
theorem dt_Tr_addRounds : q_ck n_Tr_addRounds t_Tr_addRounds = true := by decide +kernel
def c_Tr_addRounds_59 (h1 : qH) (d : Nat) (x2 : Int) (x3 : Int) (s1 : Int) (s2 : Int) (s3 : Int) (s4 : Int) (B : qB) (Q : qO → qB → Prop) : Prop := 1 ≤ B 90 8 ∧ B 90 8 ≤ 408 ∧ R32 s4 ∧ 0 ≤ (adV B) ∧ (adV B) < 408 ∧ Q (.inl (some (iv (adV B)))) (u2 (u2 (adT B s1 s2 s3 s4) 95 (adV B) x2) 96 (adV B) x3)
theorem c_Tr_addRounds_59_ok {h1 : qH} {d : Nat} {x2 : Int} {x3 : Int} {s1 : Int} {s2 : Int} {s3 : Int} {s4 : Int} {B : qB} {Q : qO → qB → Prop} (hd : 2 ≤ d) (hS : SH B) (w : c_Tr_addRounds_59 h1 d x2 x3 s1 s2 s3 s4 B Q) : qY h1 (d + 1) n_Tr_addRounds 59 [some (.ref 90), none, some (iv x2), some (iv x3), none, none, none, none] [iv s4, iv s3, iv s2, iv s1, .ref 90] B Q := by
  unfold c_Tr_addRounds_59 at w
  obtain ⟨p1, p2, p3, p5, p6, w⟩ := w
  refine y_virtP (k' := n_Tr_add) (n := 1) (as := [iv s1, iv s2, iv s3, iv s4]) (r := []) (ck_at dt_Tr_addRounds 37 rfl) own_Tr_addRounds (cm_at 79 rfl) vk_Tr_add rfl nl_Tr_add rfl rfl rfl rfl (SH.o hS ⟨by decide, by decide, by decide⟩) (Y_Tr_add (by omega) hS p1 p2 p3 ⟨rfl, rfl⟩) ?_
  have hS4 : SH (adT B s1 s2 s3 s4) := S_Tr_add hS p1 p2 p3
  refine y_st1 (ok := q_isI) (n := 7) (L' := [some (.ref 90), none, some (iv x2), some (iv x3), none, none, none, some (iv (adV B))]) (ck_at dt_Tr_addRounds 38 rfl) rfl (fun _ => rfl) (fun _ _ => rfl) rfl nl_Tr_addRounds (by decide) trivial rfl ?_
  refine y_ldk (ok := q_isA) (n := 0) (ck_at dt_Tr_addRounds 39 rfl) rfl rfl (fun _ => rfl) rfl rfl ?_
  refine y_getF (r := 95) (K := 8) (j := 4) (a := 90) (ck_at dt_Tr_addRounds 40 rfl) own_Tr_addRounds (cf_at 36 rfl) rfl rfl ⟨(SH.o hS4 ⟨by decide, by decide, by decide⟩), ?_⟩
  refine y_ldk (ok := q_isI) (n := 7) (ck_at dt_Tr_addRounds 41 rfl) rfl rfl (fun _ => rfl) rfl rfl ?_
  refine y_ldk (ok := q_isI) (n := 2) (ck_at dt_Tr_addRounds 42 rfl) rfl rfl (fun _ => rfl) rfl rfl ?_
  refine y_stat3V (k' := n_P_put) (n := 0) (as := [.ref 95, iv (adV B), iv x2]) (r := []) (ck_at dt_Tr_addRounds 43 rfl) own_Tr_addRounds (cm_at 77 rfl) (cs_at 18 rfl) vk_P_put rfl nl_P_put rfl rfl rfl rfl  (Y_P_put (by omega) hS4 (SH.a (t := 1) (a := 95) (n := 408) hS4 ⟨by decide, by decide, by decide, by decide⟩) (by decide) (by decide) p5 p6 ⟨rfl, rfl⟩) ?_
  have hS7 := SH_u2 (b := 95) (x := (adV B)) (z := x2) hS4 p5
  refine y_ldk (ok := q_isA) (n := 0) (ck_at dt_Tr_addRounds 44 rfl) rfl rfl (fun _ => rfl) rfl rfl ?_
  refine y_getF (r := 96) (K := 8) (j := 5) (a := 90) (ck_at dt_Tr_addRounds 45 rfl) own_Tr_addRounds (cf_at 37 rfl) rfl rfl ⟨(SH.o hS7 ⟨by decide, by decide, by decide⟩), ?_⟩
  refine y_ldk (ok := q_isI) (n := 7) (ck_at dt_Tr_addRounds 46 rfl) rfl rfl (fun _ => rfl) rfl rfl ?_
  refine y_ldk (ok := q_isI) (n := 3) (ck_at dt_Tr_addRounds 47 rfl) rfl rfl (fun _ => rfl) rfl rfl ?_
  refine y_stat3V (k' := n_P_put) (n := 0) (as := [.ref 96, iv (adV B), iv x3]) (r := []) (ck_at dt_Tr_addRounds 48 rfl) own_Tr_addRounds (cm_at 77 rfl) (cs_at 18 rfl) vk_P_put rfl nl_P_put rfl rfl rfl rfl  (Y_P_put (by omega) hS7 (SH.a (t := 1) (a := 96) (n := 408) hS7 ⟨by decide, by decide, by decide, by decide⟩) (by decide) (by decide) p5 p6 ⟨rfl, rfl⟩) ?_
  have hS8 := SH_u2 (b := 96) (x := (adV B)) (z := x3) hS7 p5
  refine y_ldk (ok := q_isI) (n := 7) (ck_at dt_Tr_addRounds 49 rfl) rfl rfl (fun _ => rfl) rfl rfl ?_
  exact y_retI (ck_at dt_Tr_addRounds 50 rfl) rt_Tr_addRounds w
def c_Tr_addRounds_35 (h1 : qH) (d : Nat) (x1 : Int) (x2 : Int) (x3 : Int) (x4 : Int) (s0 : Int) (s1 : Int) (B : qB) (Q : qO → qB → Prop) : Prop := R32 x4 ∧ (¬ x4 = 2 → c_Tr_addRounds_59 h1 d x2 x3 11 x4 x1 (s0 + s1) B Q) ∧ (x4 = 2 → c_Tr_addRounds_59 h1 d x2 x3 11 x4 x1 ((s0 + s1) + 1) B Q)
theorem c_Tr_addRounds_35_ok {h1 : qH} {d : Nat} {x1 : Int} {x2 : Int} {x3 : Int} {x4 : Int} {s0 : Int} {s1 : Int} {B : qB} {Q : qO → qB → Prop} (hd : 2 ≤ d) (hS : SH B) (w : c_Tr_addRounds_35 h1 d x1 x2 x3 x4 s0 s1 B Q) : qY h1 (d + 1) n_Tr_addRounds 35 [some (.ref 90), some (iv x1), some (iv x2), some (iv x3), some (iv x4), none, none, none] [iv s1, iv s0] B Q := by
  unfold c_Tr_addRounds_35 at w
  obtain ⟨p1, w⟩ := w
  refine y_op (ck_at dt_Tr_addRounds 23 rfl) rfl o_iadd ?_
  refine y_st1 (ok := q_isI) (n := 6) (L' := [some (.ref 90), some (iv x1), some (iv x2), some (iv x3), some (iv x4), none, some (iv (s0 + s1)), none]) (ck_at dt_Tr_addRounds 24 rfl) rfl (fun _ => rfl) (fun _ _ => rfl) rfl nl_Tr_addRounds (by decide) trivial rfl ?_
  refine y_ldk (ok := q_isA) (n := 0) (ck_at dt_Tr_addRounds 25 rfl) rfl rfl (fun _ => rfl) rfl rfl ?_
  refine y_op (ck_at dt_Tr_addRounds 26 rfl) rfl (o_bipush _ (by decide)) ?_
  refine y_ldk (ok := q_isI) (n := 4) (ck_at dt_Tr_addRounds 27 rfl) rfl rfl (fun _ => rfl) rfl rfl ?_
  refine y_ldk (ok := q_isI) (n := 1) (ck_at dt_Tr_addRounds 28 rfl) rfl rfl (fun _ => rfl) rfl rfl ?_
  refine y_ldk (ok := q_isI) (n := 4) (ck_at dt_Tr_addRounds 29 rfl) rfl rfl (fun _ => rfl) rfl rfl ?_
  refine y_op (ck_at dt_Tr_addRounds 30 rfl) rfl (o_const _) ?_
  refine y_icmp (t := 57) (ck_at dt_Tr_addRounds 31 rfl) rfl p1 ⟨by decide, by decide⟩ ?_ ?_
  · intro q; have w := w.1 q
    refine y_ldk (ok := q_isI) (n := 6) (ck_at dt_Tr_addRounds 36 rfl) rfl rfl (fun _ => rfl) rfl rfl ?_
    exact y_wk (c_Tr_addRounds_59_ok (by omega) hS w) ⟨rfl, ⟨rfl, ⟨rfl, trivial⟩⟩⟩
  · intro q; have w := w.2 q
    refine y_ldk (ok := q_isI) (n := 6) (ck_at dt_Tr_addRounds 32 rfl) rfl rfl (fun _ => rfl) rfl rfl ?_
    refine y_op (ck_at dt_Tr_addRounds 33 rfl) rfl (o_const _) ?_
    refine y_op (ck_at dt_Tr_addRounds 34 rfl) rfl o_iadd ?_
    refine y_goto (t := 59) (ck_at dt_Tr_addRounds 35 rfl) rfl ?_
    exact y_wk (c_Tr_addRounds_59_ok (by omega) hS w) ⟨rfl, ⟨rfl, ⟨rfl, trivial⟩⟩⟩
def c_Tr_addRounds_0 (h1 : qH) (d : Nat) (x1 : Int) (x2 : Int) (x3 : Int) (x4 : Int) (B : qB) (Q : qO → qB → Prop) : Prop := 0 ≤ x1 ∧ x1 < 408 ∧ R32 x3 ∧ (¬ x3 = (-1) → c_Tr_addRounds_35 h1 d x1 x2 x3 x4 (x2 * (B 97 x1)) ((x3 - x2) * ((B 97 x1) + 1)) B Q) ∧ (x3 = (-1) → c_Tr_addRounds_35 h1 d x1 x2 x3 x4 (x2 * (B 97 x1)) ((B 97 x1) + 1) B Q)
theorem c_Tr_addRounds_0_ok {h1 : qH} {d : Nat} {x1 : Int} {x2 : Int} {x3 : Int} {x4 : Int} {B : qB} {Q : qO → qB → Prop} (hd : 2 ≤ d) (hS : SH B) (w : c_Tr_addRounds_0 h1 d x1 x2 x3 x4 B Q) : qY h1 (d + 1) n_Tr_addRounds 0 [some (.ref 90), some (iv x1), some (iv x2), some (iv x3), some (iv x4), none, none, none] [] B Q := by
  unfold c_Tr_addRounds_0 at w
  obtain ⟨p1, p2, p3, w⟩ := w
  refine y_ldk (ok := q_isA) (n := 0) (ck_at dt_Tr_addRounds 0 rfl) rfl rfl (fun _ => rfl) rfl rfl ?_
  refine y_ldk (ok := q_isI) (n := 1) (ck_at dt_Tr_addRounds 1 rfl) rfl rfl (fun _ => rfl) rfl rfl ?_
  refine y_virtP (k' := n_Tr_weightOf) (n := 0) (as := [iv x1]) (r := []) (ck_at dt_Tr_addRounds 2 rfl) own_Tr_addRounds (cm_at 78 rfl) vk_Tr_weightOf rfl nl_Tr_weightOf rfl rfl rfl rfl (SH.o hS ⟨by decide, by decide, by decide⟩) (Y_Tr_weightOf (by omega) hS p1 p2 ⟨rfl, rfl⟩) ?_
  refine y_st1 (ok := q_isI) (n := 5) (L' := [some (.ref 90), some (iv x1), some (iv x2), some (iv x3), some (iv x4), some (iv (B 97 x1)), none, none]) (ck_at dt_Tr_addRounds 3 rfl) rfl (fun _ => rfl) (fun _ _ => rfl) rfl nl_Tr_addRounds (by decide) rfl rfl ?_
  refine y_ldk (ok := q_isI) (n := 2) (ck_at dt_Tr_addRounds 4 rfl) rfl rfl (fun _ => rfl) rfl rfl ?_
  refine y_ldk (ok := q_isI) (n := 5) (ck_at dt_Tr_addRounds 5 rfl) rfl rfl (fun _ => rfl) rfl rfl ?_
  refine y_op (ck_at dt_Tr_addRounds 6 rfl) rfl o_imul ?_
  refine y_st1 (ok := q_isI) (n := 6) (L' := [some (.ref 90), some (iv x1), some (iv x2), some (iv x3), some (iv x4), some (iv (B 97 x1)), some (iv (x2 * (B 97 x1))), none]) (ck_at dt_Tr_addRounds 7 rfl) rfl (fun _ => rfl) (fun _ _ => rfl) rfl nl_Tr_addRounds (by decide) rfl rfl ?_
  refine y_ldk (ok := q_isI) (n := 6) (ck_at dt_Tr_addRounds 8 rfl) rfl rfl (fun _ => rfl) rfl rfl ?_
  refine y_ldk (ok := q_isI) (n := 3) (ck_at dt_Tr_addRounds 9 rfl) rfl rfl (fun _ => rfl) rfl rfl ?_
  refine y_op (ck_at dt_Tr_addRounds 10 rfl) rfl (o_const _) ?_
  refine y_icmp (t := 27) (ck_at dt_Tr_addRounds 11 rfl) rfl p3 ⟨by decide, by decide⟩ ?_ ?_
  · intro q; have w := w.1 q
    refine y_ldk (ok := q_isI) (n := 3) (ck_at dt_Tr_addRounds 16 rfl) rfl rfl (fun _ => rfl) rfl rfl ?_
    refine y_ldk (ok := q_isI) (n := 2) (ck_at dt_Tr_addRounds 17 rfl) rfl rfl (fun _ => rfl) rfl rfl ?_
    refine y_op (ck_at dt_Tr_addRounds 18 rfl) rfl o_isub ?_
    refine y_ldk (ok := q_isI) (n := 5) (ck_at dt_Tr_addRounds 19 rfl) rfl rfl (fun _ => rfl) rfl rfl ?_
    refine y_op (ck_at dt_Tr_addRounds 20 rfl) rfl (o_const _) ?_
    refine y_op (ck_at dt_Tr_addRounds 21 rfl) rfl o_iadd ?_
    refine y_op (ck_at dt_Tr_addRounds 22 rfl) rfl o_imul ?_
    exact y_wk (c_Tr_addRounds_35_ok (by omega) hS w) ⟨rfl, ⟨rfl, ⟨rfl, ⟨rfl, ⟨rfl, trivial⟩⟩⟩⟩⟩
  · intro q; have w := w.2 q
    refine y_ldk (ok := q_isI) (n := 5) (ck_at dt_Tr_addRounds 12 rfl) rfl rfl (fun _ => rfl) rfl rfl ?_
    refine y_op (ck_at dt_Tr_addRounds 13 rfl) rfl (o_const _) ?_
    refine y_op (ck_at dt_Tr_addRounds 14 rfl) rfl o_iadd ?_
    refine y_goto (t := 35) (ck_at dt_Tr_addRounds 15 rfl) rfl ?_
    exact y_wk (c_Tr_addRounds_35_ok (by omega) hS w) ⟨rfl, ⟨rfl, ⟨rfl, ⟨rfl, ⟨rfl, trivial⟩⟩⟩⟩⟩
/-! PatternTrier$Tree.onlySet(I)I -/
def t_Tr_onlySet : List (Nat × Instr × Nat) := [(0, .aload_n 0, 1), (1, .iload_n 1, 1), (2, .invokevirtual 69, 3), (5, .istore_n 2, 1), (6, .aload_n 0, 1), (7, .iload_n 2, 1), (8, .invokevirtual 69, 3), (11, .istore_n 3, 1), (12, .iload_n 3, 1), (13, .ifCond .eq 23, 3), (16, .aload_n 0, 1), (17, .iload_n 2, 1), (18, .invokevirtual 72, 3), (21, .ifCond .ne 15, 3), (24, .aload_n 0, 1), (25, .iload_n 3, 1), (26, .invokevirtual 72, 3), (29, .ifCond .ne 7, 3), (32, .iconst 1, 1), (33, .goto 4, 3), (36, .iconst 0, 1), (37, .istore 4, 2), (39, .iload 4, 2), (41, .ifCond .eq 20, 3), (44, .aload_n 0, 1), (45, .iload_n 3, 1), (46, .invokevirtual 75, 3), (49, .iconst 2, 1), (50, .if_icmp .ne 11, 3), (53, .aload_n 0, 1), (54, .iload_n 3, 1), (55, .invokevirtual 78, 3), (58, .goto 4, 3), (61, .iconst (-1), 1), (62, .ireturn, 1)]
set_option maxRecDepth 100000 in
theorem dt_Tr_onlySet : q_ck n_Tr_onlySet t_Tr_onlySet = true := by decide +kernel
def c_Tr_onlySet_37 (h1 : qH) (d : Nat) (x3 : Int) (s0 : Int) (B : qB) (Q : qO → qB → Prop) : Prop := R32 s0 ∧ (s0 = 0 → Q (.inl (some (iv (-1)))) B) ∧ (¬ s0 = 0 → 0 ≤ x3 ∧ x3 < 408 ∧ R32 (B 91 x3) ∧ (¬ B 91 x3 = 2 → Q (.inl (some (iv (-1)))) B) ∧ (B 91 x3 = 2 → Q (.inl (some (iv (B 92 x3)))) B))
theorem c_Tr_onlySet_37_ok {h1 : qH} {d : Nat} {x3 : Int} {s0 : Int} {B : qB} {Q : qO → qB → Prop} (hd : 2 ≤ d) (hS : SH B) (w : c_Tr_onlySet_37 h1 d x3 s0 B Q) : qY h1 (d + 1) n_Tr_onlySet 37 [some (.ref 90), none, none, some (iv x3), none] [iv s0] B Q := by
  unfold c_Tr_onlySet_37 at w
  obtain ⟨p1, w⟩ := w
  refine y_st1 (ok := q_isI) (n := 4) (L' := [some (.ref 90), none, none, some (iv x3), some (iv s0)]) (ck_at dt_Tr_onlySet 21 rfl) rfl (fun _ => rfl) (fun _ _ => rfl) rfl nl_Tr_onlySet (by decide) rfl rfl ?_
  refine y_ldk (ok := q_isI) (n := 4) (ck_at dt_Tr_onlySet 22 rfl) rfl rfl (fun _ => rfl) rfl rfl ?_
  refine y_ifz (t := 61) (ck_at dt_Tr_onlySet 23 rfl) rfl p1 ?_ ?_
  · intro q; have w := w.1 q
    refine y_op (ck_at dt_Tr_onlySet 33 rfl) rfl (o_const _) ?_
    exact y_retI (ck_at dt_Tr_onlySet 34 rfl) rt_Tr_onlySet w
  · intro q; have w := w.2 q
    obtain ⟨p2, p3, p4, w⟩ := w
    refine y_ldk (ok := q_isA) (n := 0) (ck_at dt_Tr_onlySet 24 rfl) rfl rfl (fun _ => rfl) rfl rfl ?_
    refine y_ldk (ok := q_isI) (n := 3) (ck_at dt_Tr_onlySet 25 rfl) rfl rfl (fun _ => rfl) rfl rfl ?_
    refine y_virtP (k' := n_Tr_kindOf) (n := 0) (as := [iv x3]) (r := []) (ck_at dt_Tr_onlySet 26 rfl) own_Tr_onlySet (cm_at 83 rfl) vk_Tr_kindOf rfl nl_Tr_kindOf rfl rfl rfl rfl (SH.o hS ⟨by decide, by decide, by decide⟩) (Y_Tr_kindOf (by omega) hS p2 p3 ⟨rfl, rfl⟩) ?_
    refine y_op (ck_at dt_Tr_onlySet 27 rfl) rfl (o_const _) ?_
    refine y_icmp (t := 61) (ck_at dt_Tr_onlySet 28 rfl) rfl p4 ⟨by decide, by decide⟩ ?_ ?_
    · intro q; have w := w.1 q
      refine y_op (ck_at dt_Tr_onlySet 33 rfl) rfl (o_const _) ?_
      exact y_retI (ck_at dt_Tr_onlySet 34 rfl) rt_Tr_onlySet w
    · intro q; have w := w.2 q
      refine y_ldk (ok := q_isA) (n := 0) (ck_at dt_Tr_onlySet 29 rfl) rfl rfl (fun _ => rfl) rfl rfl ?_
      refine y_ldk (ok := q_isI) (n := 3) (ck_at dt_Tr_onlySet 30 rfl) rfl rfl (fun _ => rfl) rfl rfl ?_
      refine y_virtP (k' := n_Tr_valueOf) (n := 0) (as := [iv x3]) (r := []) (ck_at dt_Tr_onlySet 31 rfl) own_Tr_onlySet (cm_at 84 rfl) vk_Tr_valueOf rfl nl_Tr_valueOf rfl rfl rfl rfl (SH.o hS ⟨by decide, by decide, by decide⟩) (Y_Tr_valueOf (by omega) hS p2 p3 ⟨rfl, rfl⟩) ?_
      refine y_goto (t := 62) (ck_at dt_Tr_onlySet 32 rfl) rfl ?_
      exact y_retI (ck_at dt_Tr_onlySet 34 rfl) rt_Tr_onlySet w
def c_Tr_onlySet_36 (h1 : qH) (d : Nat) (x3 : Int) (B : qB) (Q : qO → qB → Prop) : Prop := c_Tr_onlySet_37 h1 d x3 0 B Q
theorem c_Tr_onlySet_36_ok {h1 : qH} {d : Nat} {x3 : Int} {B : qB} {Q : qO → qB → Prop} (hd : 2 ≤ d) (hS : SH B) (w : c_Tr_onlySet_36 h1 d x3 B Q) : qY h1 (d + 1) n_Tr_onlySet 36 [some (.ref 90), none, none, some (iv x3), none] [] B Q := by
  unfold c_Tr_onlySet_36 at w
  refine y_op (ck_at dt_Tr_onlySet 20 rfl) rfl (o_const _) ?_
  exact y_wk (c_Tr_onlySet_37_ok (by omega) hS w) ⟨rfl, ⟨rfl, trivial⟩⟩
def c_Tr_onlySet_0 (h1 : qH) (d : Nat) (x1 : Int) (B : qB) (Q : qO → qB → Prop) : Prop := 0 ≤ x1 ∧ x1 < 408 ∧ 0 ≤ (B 93 x1) ∧ (B 93 x1) < 408 ∧ R32 (B 93 (B 93 x1)) ∧ (B 93 (B 93 x1) = 0 → c_Tr_onlySet_36 h1 d (B 93 (B 93 x1)) B Q) ∧ (¬ B 93 (B 93 x1) = 0 → R32 (B 94 (B 93 x1)) ∧ (¬ B 94 (B 93 x1) = 0 → c_Tr_onlySet_36 h1 d (B 93 (B 93 x1)) B Q) ∧ (B 94 (B 93 x1) = 0 → 0 ≤ (B 93 (B 93 x1)) ∧ (B 93 (B 93 x1)) < 408 ∧ R32 (B 94 (B 93 (B 93 x1))) ∧ (¬ B 94 (B 93 (B 93 x1)) = 0 → c_Tr_onlySet_36 h1 d (B 93 (B 93 x1)) B Q) ∧ (B 94 (B 93 (B 93 x1)) = 0 → c_Tr_onlySet_37 h1 d (B 93 (B 93 x1)) 1 B Q)))
theorem c_Tr_onlySet_0_ok {h1 : qH} {d : Nat} {x1 : Int} {B : qB} {Q : qO → qB → Prop} (hd : 2 ≤ d) (hS : SH B) (w : c_Tr_onlySet_0 h1 d x1 B Q) : qY h1 (d + 1) n_Tr_onlySet 0 [some (.ref 90), some (iv x1), none, none, none] [] B Q := by
  unfold c_Tr_onlySet_0 at w
  obtain ⟨p1, p2, p3, p4, p5, w⟩ := w
  refine y_ldk (ok := q_isA) (n := 0) (ck_at dt_Tr_onlySet 0 rfl) rfl rfl (fun _ => rfl) rfl rfl ?_
  refine y_ldk (ok := q_isI) (n := 1) (ck_at dt_Tr_onlySet 1 rfl) rfl rfl (fun _ => rfl) rfl rfl ?_
  refine y_virtP (k' := n_Tr_innerOf) (n := 0) (as := [iv x1]) (r := []) (ck_at dt_Tr_onlySet 2 rfl) own_Tr_onlySet (cm_at 81 rfl) vk_Tr_innerOf rfl nl_Tr_innerOf rfl rfl rfl rfl (SH.o hS ⟨by decide, by decide, by decide⟩) (Y_Tr_innerOf (by omega) hS p1 p2 ⟨rfl, rfl⟩) ?_
  refine y_st1 (ok := q_isI) (n := 2) (L' := [some (.ref 90), some (iv x1), some (iv (B 93 x1)), none, none]) (ck_at dt_Tr_onlySet 3 rfl) rfl (fun _ => rfl) (fun _ _ => rfl) rfl nl_Tr_onlySet (by decide) rfl rfl ?_
  refine y_ldk (ok := q_isA) (n := 0) (ck_at dt_Tr_onlySet 4 rfl) rfl rfl (fun _ => rfl) rfl rfl ?_
  refine y_ldk (ok := q_isI) (n := 2) (ck_at dt_Tr_onlySet 5 rfl) rfl rfl (fun _ => rfl) rfl rfl ?_
  refine y_virtP (k' := n_Tr_innerOf) (n := 0) (as := [iv (B 93 x1)]) (r := []) (ck_at dt_Tr_onlySet 6 rfl) own_Tr_onlySet (cm_at 81 rfl) vk_Tr_innerOf rfl nl_Tr_innerOf rfl rfl rfl rfl (SH.o hS ⟨by decide, by decide, by decide⟩) (Y_Tr_innerOf (by omega) hS p3 p4 ⟨rfl, rfl⟩) ?_
  refine y_st1 (ok := q_isI) (n := 3) (L' := [some (.ref 90), some (iv x1), some (iv (B 93 x1)), some (iv (B 93 (B 93 x1))), none]) (ck_at dt_Tr_onlySet 7 rfl) rfl (fun _ => rfl) (fun _ _ => rfl) rfl nl_Tr_onlySet (by decide) rfl rfl ?_
  refine y_ldk (ok := q_isI) (n := 3) (ck_at dt_Tr_onlySet 8 rfl) rfl rfl (fun _ => rfl) rfl rfl ?_
  refine y_ifz (t := 36) (ck_at dt_Tr_onlySet 9 rfl) rfl p5 ?_ ?_
  · intro q; have w := w.1 q
    exact y_wk (c_Tr_onlySet_36_ok (by omega) hS w) ⟨rfl, ⟨rfl, trivial⟩⟩
  · intro q; have w := w.2 q
    obtain ⟨p6, w⟩ := w
    refine y_ldk (ok := q_isA) (n := 0) (ck_at dt_Tr_onlySet 10 rfl) rfl rfl (fun _ => rfl) rfl rfl ?_
    refine y_ldk (ok := q_isI) (n := 2) (ck_at dt_Tr_onlySet 11 rfl) rfl rfl (fun _ => rfl) rfl rfl ?_
    refine y_virtP (k' := n_Tr_beforeOf) (n := 0) (as := [iv (B 93 x1)]) (r := []) (ck_at dt_Tr_onlySet 12 rfl) own_Tr_onlySet (cm_at 82 rfl) vk_Tr_beforeOf rfl nl_Tr_beforeOf rfl rfl rfl rfl (SH.o hS ⟨by decide, by decide, by decide⟩) (Y_Tr_beforeOf (by omega) hS p3 p4 ⟨rfl, rfl⟩) ?_
    refine y_ifz (t := 36) (ck_at dt_Tr_onlySet 13 rfl) rfl p6 ?_ ?_
    · intro q; have w := w.1 q
      exact y_wk (c_Tr_onlySet_36_ok (by omega) hS w) ⟨rfl, ⟨rfl, trivial⟩⟩
    · intro q; have w := w.2 q
      obtain ⟨p7, p8, p9, w⟩ := w
      refine y_ldk (ok := q_isA) (n := 0) (ck_at dt_Tr_onlySet 14 rfl) rfl rfl (fun _ => rfl) rfl rfl ?_
      refine y_ldk (ok := q_isI) (n := 3) (ck_at dt_Tr_onlySet 15 rfl) rfl rfl (fun _ => rfl) rfl rfl ?_
      refine y_virtP (k' := n_Tr_beforeOf) (n := 0) (as := [iv (B 93 (B 93 x1))]) (r := []) (ck_at dt_Tr_onlySet 16 rfl) own_Tr_onlySet (cm_at 82 rfl) vk_Tr_beforeOf rfl nl_Tr_beforeOf rfl rfl rfl rfl (SH.o hS ⟨by decide, by decide, by decide⟩) (Y_Tr_beforeOf (by omega) hS p7 p8 ⟨rfl, rfl⟩) ?_
      refine y_ifz (t := 36) (ck_at dt_Tr_onlySet 17 rfl) rfl p9 ?_ ?_
      · intro q; have w := w.1 q
        exact y_wk (c_Tr_onlySet_36_ok (by omega) hS w) ⟨rfl, ⟨rfl, trivial⟩⟩
      · intro q; have w := w.2 q
        refine y_op (ck_at dt_Tr_onlySet 18 rfl) rfl (o_const _) ?_
        refine y_goto (t := 37) (ck_at dt_Tr_onlySet 19 rfl) rfl ?_
        exact y_wk (c_Tr_onlySet_37_ok (by omega) hS w) ⟨rfl, ⟨rfl, trivial⟩⟩
/-! PatternTrier$Program.clear()V -/
def t_Pr_clear : List (Nat × Instr × Nat) := [(0, .aload_n 0, 1), (1, .iconst 0, 1), (2, .putfield 47, 3), (5, .aload_n 0, 1), (6, .iconst 0, 1), (7, .putfield 50, 3), (10, .aload_n 0, 1), (11, .bipush 18, 2), (13, .iconst 0, 1), (14, .iconst 0, 1), (15, .iconst 0, 1), (16, .invokevirtual 53, 3), (19, .pop, 1), (20, .return_, 1)]
set_option maxRecDepth 100000 in
theorem dt_Pr_clear : q_ck n_Pr_clear t_Pr_clear = true := by decide +kernel
def c_Pr_clear_0 (h1 : qH) (d : Nat) (a0 : Nat) (B : qB) (Q : qO → qB → Prop) : Prop := 0 ≤ (u2 (u2 B a0 7 0) a0 8 0) a0 7 ∧ (u2 (u2 B a0 7 0) a0 8 0) a0 7 < 608 ∧ Q (.inl none) (paC (u2 (u2 B a0 7 0) a0 8 0) a0 18 0 0 0)
theorem c_Pr_clear_0_ok {h1 : qH} {d : Nat} {a0 : Nat} {B : qB} {Q : qO → qB → Prop} (hd : 2 ≤ d) (hS : SH B) (ha0 : ob 5 a0) (w : c_Pr_clear_0 h1 d a0 B Q) : qY h1 (d + 1) n_Pr_clear 0 [some (.ref a0)] [] B Q := by
  unfold c_Pr_clear_0 at w
  obtain ⟨p3, p4, w⟩ := w
  refine y_ldk (ok := q_isA) (n := 0) (ck_at dt_Pr_clear 0 rfl) rfl rfl (fun _ => rfl) rfl rfl ?_
  refine y_op (ck_at dt_Pr_clear 1 rfl) rfl (o_const _) ?_
  refine y_putI (K := 5) (j := 7) (a := a0) (ck_at dt_Pr_clear 2 rfl) own_Pr_clear (cf_at 19 rfl) rfl rfl rfl rfl rfl ⟨⟨SH.o hS ha0, ob.lt ha0⟩, ?_⟩
  have hS1 := SH_u2 (b := a0) (x := 7) (z := 0) hS (by decide)
  refine y_ldk (ok := q_isA) (n := 0) (ck_at dt_Pr_clear 3 rfl) rfl rfl (fun _ => rfl) rfl rfl ?_
  refine y_op (ck_at dt_Pr_clear 4 rfl) rfl (o_const _) ?_
  refine y_putI (K := 5) (j := 8) (a := a0) (ck_at dt_Pr_clear 5 rfl) own_Pr_clear (cf_at 20 rfl) rfl rfl rfl rfl rfl ⟨⟨SH.o hS1 ha0, ob.lt ha0⟩, ?_⟩
  have hS2 := SH_u2 (b := a0) (x := 8) (z := 0) hS1 (by decide)
  refine y_ldk (ok := q_isA) (n := 0) (ck_at dt_Pr_clear 6 rfl) rfl rfl (fun _ => rfl) rfl rfl ?_
  refine y_op (ck_at dt_Pr_clear 7 rfl) rfl (o_bipush _ (by decide)) ?_
  refine y_op (ck_at dt_Pr_clear 8 rfl) rfl (o_const _) ?_
  refine y_op (ck_at dt_Pr_clear 9 rfl) rfl (o_const _) ?_
  refine y_op (ck_at dt_Pr_clear 10 rfl) rfl (o_const _) ?_
  refine y_virtP (k' := n_Pr_add) (n := 1) (as := [iv 18, iv 0, iv 0, iv 0]) (r := []) (ck_at dt_Pr_clear 11 rfl) own_Pr_clear (cm_at 32 rfl) vk_Pr_add rfl nl_Pr_add rfl rfl rfl rfl (SH.o hS2 ha0) (Y_Pr_add (by omega) hS2 ha0 p3 p4 ⟨by decide, by decide⟩ ⟨rfl, rfl⟩) ?_
  have hS5 : SH (paC (u2 (u2 B a0 7 0) a0 8 0) a0 18 0 0 0) := S_Pr_add hS2 ha0 p3 p4 ⟨by decide, by decide⟩
  refine y_op (ck_at dt_Pr_clear 12 rfl) rfl rfl ?_
  exact y_ret0 (ck_at dt_Pr_clear 13 rfl) rt_Pr_clear w
/-! PatternTrier$Builder.branch(IIIZ)V -/
def t_Bu_branch : List (Nat × Instr × Nat) := [(0, .aload_n 0, 1), (1, .getfield 15, 3), (4, .iload_n 1, 1), (5, .iload 4, 2), (7, .ifCond .eq 7, 3), (10, .iload_n 3, 1), (11, .goto 4, 3), (14, .iload_n 2, 1), (15, .iload 4, 2), (17, .ifCond .eq 7, 3), (20, .iload_n 2, 1), (21, .goto 4, 3), (24, .iload_n 3, 1), (25, .invokevirtual 47, 3), (28, .return_, 1)]
set_option maxRecDepth 100000 in
theorem dt_Bu_branch : q_ck n_Bu_branch t_Bu_branch = true := by decide +kernel
def c_Bu_branch_15 (h1 : qH) (d : Nat) (x2 : Int) (x3 : Int) (x4 : Int) (r0 : Nat) (s1 : Int) (s2 : Int) (B : qB) (Q : qO → qB → Prop) : Prop := R32 x4 ∧ (x4 = 0 → 0 ≤ s1 ∧ s1 < 608 ∧ Q (.inl none) (u2 (u2 B (r0 + 3) s1 s2) (r0 + 4) s1 x3)) ∧ (¬ x4 = 0 → 0 ≤ s1 ∧ s1 < 608 ∧ Q (.inl none) (u2 (u2 B (r0 + 3) s1 s2) (r0 + 4) s1 x2))
theorem c_Bu_branch_15_ok {h1 : qH} {d : Nat} {x2 : Int} {x3 : Int} {x4 : Int} {r0 : Nat} {s1 : Int} {s2 : Int} {B : qB} {Q : qO → qB → Prop} (hd : 2 ≤ d) (hS : SH B) (hr0 : ob 5 r0) (w : c_Bu_branch_15 h1 d x2 x3 x4 r0 s1 s2 B Q) : qY h1 (d + 1) n_Bu_branch 15 [none, none, some (iv x2), some (iv x3), some (iv x4)] [iv s2, iv s1, .ref r0] B Q := by
  unfold c_Bu_branch_15 at w
  obtain ⟨p1, w⟩ := w
  refine y_ldk (ok := q_isI) (n := 4) (ck_at dt_Bu_branch 8 rfl) rfl rfl (fun _ => rfl) rfl rfl ?_
  refine y_ifz (t := 24) (ck_at dt_Bu_branch 9 rfl) rfl p1 ?_ ?_
  · intro q; have w := w.1 q
    obtain ⟨p2, p3, w⟩ := w
    refine y_ldk (ok := q_isI) (n := 3) (ck_at dt_Bu_branch 12 rfl) rfl rfl (fun _ => rfl) rfl rfl ?_
    refine y_virtV (k' := n_Pr_branch) (n := 0) (as := [iv s1, iv s2, iv x3]) (r := []) (ck_at dt_Bu_branch 13 rfl) own_Bu_branch (cm_at 7 rfl) vk_Pr_branch rfl nl_Pr_branch rfl rfl rfl rfl (SH.o hS hr0) (Y_Pr_branch (by omega) hS hr0 p2 p3 ⟨rfl, rfl⟩) ?_
    have hS4 := SH_u2 (b := r0 + 3) (x := s1) (z := s2) hS p2
    have hS5 := SH_u2 (b := r0 + 4) (x := s1) (z := x3) hS4 p2
    exact y_ret0 (ck_at dt_Bu_branch 14 rfl) rt_Bu_branch w
  · intro q; have w := w.2 q
    obtain ⟨p6, p7, w⟩ := w
    refine y_ldk (ok := q_isI) (n := 2) (ck_at dt_Bu_branch 10 rfl) rfl rfl (fun _ => rfl) rfl rfl ?_
    refine y_goto (t := 25) (ck_at dt_Bu_branch 11 rfl) rfl ?_
    refine y_virtV (k' := n_Pr_branch) (n := 0) (as := [iv s1, iv s2, iv x2]) (r := []) (ck_at dt_Bu_branch 13 rfl) own_Bu_branch (cm_at 7 rfl) vk_Pr_branch rfl nl_Pr_branch rfl rfl rfl rfl (SH.o hS hr0) (Y_Pr_branch (by omega) hS hr0 p6 p7 ⟨rfl, rfl⟩) ?_
    have hS8 := SH_u2 (b := r0 + 3) (x := s1) (z := s2) hS p6
    have hS9 := SH_u2 (b := r0 + 4) (x := s1) (z := x2) hS8 p6
    exact y_ret0 (ck_at dt_Bu_branch 14 rfl) rt_Bu_branch w
def c_Bu_branch_0 (h1 : qH) (d : Nat) (x1 : Int) (x2 : Int) (x3 : Int) (x4 : Int) (B : qB) (Q : qO → qB → Prop) : Prop := R32 x4 ∧ (x4 = 0 → ob 5 ((B 101 1).toNat) ∧ c_Bu_branch_15 h1 d x2 x3 x4 ((B 101 1).toNat) x1 x2 B Q) ∧ (¬ x4 = 0 → ob 5 ((B 101 1).toNat) ∧ c_Bu_branch_15 h1 d x2 x3 x4 ((B 101 1).toNat) x1 x3 B Q)
theorem c_Bu_branch_0_ok {h1 : qH} {d : Nat} {x1 : Int} {x2 : Int} {x3 : Int} {x4 : Int} {B : qB} {Q : qO → qB → Prop} (hd : 2 ≤ d) (hS : SH B) (w : c_Bu_branch_0 h1 d x1 x2 x3 x4 B Q) : qY h1 (d + 1) n_Bu_branch 0 [some (.ref 101), some (iv x1), some (iv x2), some (iv x3), some (iv x4)] [] B Q := by
  unfold c_Bu_branch_0 at w
  obtain ⟨p1, w⟩ := w
  refine y_ldk (ok := q_isA) (n := 0) (ck_at dt_Bu_branch 0 rfl) rfl rfl (fun _ => rfl) rfl rfl ?_
  refine y_getD (K := 0) (j := 1) (a := 101) (ck_at dt_Bu_branch 1 rfl) own_Bu_branch (cf_at 1 rfl) rfl rfl rfl ⟨(SH.o hS ⟨by decide, by decide, by decide⟩), ?_⟩
  refine y_ldk (ok := q_isI) (n := 1) (ck_at dt_Bu_branch 2 rfl) rfl rfl (fun _ => rfl) rfl rfl ?_
  refine y_ldk (ok := q_isI) (n := 4) (ck_at dt_Bu_branch 3 rfl) rfl rfl (fun _ => rfl) rfl rfl ?_
  refine y_ifz (t := 14) (ck_at dt_Bu_branch 4 rfl) rfl p1 ?_ ?_
  · intro q; have w := w.1 q
    obtain ⟨p2, w⟩ := w
    refine y_ldk (ok := q_isI) (n := 2) (ck_at dt_Bu_branch 7 rfl) rfl rfl (fun _ => rfl) rfl rfl ?_
    exact y_wk (c_Bu_branch_15_ok (by omega) hS p2 w) ⟨rfl, ⟨rfl, ⟨rfl, trivial⟩⟩⟩
  · intro q; have w := w.2 q
    obtain ⟨p3, w⟩ := w
    refine y_ldk (ok := q_isI) (n := 3) (ck_at dt_Bu_branch 5 rfl) rfl rfl (fun _ => rfl) rfl rfl ?_
    refine y_goto (t := 15) (ck_at dt_Bu_branch 6 rfl) rfl ?_
    exact y_wk (c_Bu_branch_15_ok (by omega) hS p3 w) ⟨rfl, ⟨rfl, ⟨rfl, trivial⟩⟩⟩
/-! PatternTrier$Walker.isEdge()Z -/
def t_Wa_isEdge : List (Nat × Instr × Nat) := [(0, .aload_n 0, 1), (1, .getfield 33, 3), (4, .aload_n 0, 1), (5, .getfield 96, 3), (8, .iconst 1, 1), (9, .isub, 1), (10, .invokevirtual 116, 3), (13, .invokestatic 164, 3), (16, .aload_n 0, 1), (17, .getfield 33, 3), (20, .aload_n 0, 1), (21, .getfield 96, 3), (24, .invokevirtual 116, 3), (27, .invokestatic 164, 3), (30, .if_icmp .eq 7, 3), (33, .iconst 1, 1), (34, .goto 4, 3), (37, .iconst 0, 1), (38, .ireturn, 1)]
set_option maxRecDepth 100000 in
theorem dt_Wa_isEdge : q_ck n_Wa_isEdge t_Wa_isEdge = true := by decide +kernel
def c_Wa_isEdge_0 (h1 : qH) (d : Nat) (B : qB) (Q : qO → qB → Prop) : Prop := ob 1 ((B 102 4).toNat) ∧ bOK B ((B 102 4).toNat) ∧ R32 ((B 102 7) - 1) ∧ R32 (byA B ((B 102 4).toNat) ((B 102 7) - 1)) ∧ R32 (B 102 7) ∧ R32 (byA B ((B 102 4).toNat) (B 102 7)) ∧ (bi (isWd (byA B ((B 102 4).toNat) ((B 102 7) - 1))) = bi (isWd (byA B ((B 102 4).toNat) (B 102 7))) → Q (.inl (some (iv 0))) B) ∧ (¬ bi (isWd (byA B ((B 102 4).toNat) ((B 102 7) - 1))) = bi (isWd (byA B ((B 102 4).toNat) (B 102 7))) → Q (.inl (some (iv 1))) B)
theorem c_Wa_isEdge_0_ok {h1 : qH} {d : Nat} {B : qB} {Q : qO → qB → Prop} (hd : 2 ≤ d) (hS : SH B) (w : c_Wa_isEdge_0 h1 d B Q) : qY h1 (d + 1) n_Wa_isEdge 0 [some (.ref 102)] [] B Q := by
  unfold c_Wa_isEdge_0 at w
  obtain ⟨p1, p2, p3, p4, p5, p6, w⟩ := w
  refine y_ldk (ok := q_isA) (n := 0) (ck_at dt_Wa_isEdge 0 rfl) rfl rfl (fun _ => rfl) rfl rfl ?_
  refine y_getD (K := 9) (j := 4) (a := 102) (ck_at dt_Wa_isEdge 1 rfl) own_Wa_isEdge (cf_at 45 rfl) rfl rfl rfl ⟨(SH.o hS ⟨by decide, by decide, by decide⟩), ?_⟩
  refine y_ldk (ok := q_isA) (n := 0) (ck_at dt_Wa_isEdge 2 rfl) rfl rfl (fun _ => rfl) rfl rfl ?_
  refine y_getI (K := 9) (j := 7) (a := 102) (ck_at dt_Wa_isEdge 3 rfl) own_Wa_isEdge (cf_at 48 rfl) rfl rfl rfl ⟨(SH.o hS ⟨by decide, by decide, by decide⟩), ?_⟩
  refine y_op (ck_at dt_Wa_isEdge 4 rfl) rfl (o_const _) ?_
  refine y_op (ck_at dt_Wa_isEdge 5 rfl) rfl o_isub ?_
  refine y_virtP (k' := n_By_at) (n := 0) (as := [iv ((B 102 7) - 1)]) (r := []) (ck_at dt_Wa_isEdge 6 rfl) own_Wa_isEdge (cm_at 99 rfl) vk_By_at rfl nl_By_at rfl rfl rfl rfl (SH.o hS p1) (Y_By_at (by omega) hS p1 p2 p3 ⟨rfl, rfl⟩) ?_
  refine y_statP (k' := n_Wa_isWord) (n := 0) (as := [iv (byA B ((B 102 4).toNat) ((B 102 7) - 1))]) (r := []) (ck_at dt_Wa_isEdge 7 rfl) own_Wa_isEdge (cm_at 114 rfl) (cs_at 23 rfl) vk_Wa_isWord rfl nl_Wa_isWord rfl rfl rfl rfl  (Y_Wa_isWord (by omega) hS p4 ⟨rfl, rfl⟩) ?_
  refine y_ldk (ok := q_isA) (n := 0) (ck_at dt_Wa_isEdge 8 rfl) rfl rfl (fun _ => rfl) rfl rfl ?_
  refine y_getD (K := 9) (j := 4) (a := 102) (ck_at dt_Wa_isEdge 9 rfl) own_Wa_isEdge (cf_at 45 rfl) rfl rfl rfl ⟨(SH.o hS ⟨by decide, by decide, by decide⟩), ?_⟩
  refine y_ldk (ok := q_isA) (n := 0) (ck_at dt_Wa_isEdge 10 rfl) rfl rfl (fun _ => rfl) rfl rfl ?_
  refine y_getI (K := 9) (j := 7) (a := 102) (ck_at dt_Wa_isEdge 11 rfl) own_Wa_isEdge (cf_at 48 rfl) rfl rfl rfl ⟨(SH.o hS ⟨by decide, by decide, by decide⟩), ?_⟩
  refine y_virtP (k' := n_By_at) (n := 0) (as := [iv (B 102 7)]) (r := [iv (bi (isWd (byA B ((B 102 4).toNat) ((B 102 7) - 1))))]) (ck_at dt_Wa_isEdge 12 rfl) own_Wa_isEdge (cm_at 99 rfl) vk_By_at rfl nl_By_at rfl rfl rfl rfl (SH.o hS p1) (Y_By_at (by omega) hS p1 p2 p5 ⟨rfl, rfl⟩) ?_
  refine y_statP (k' := n_Wa_isWord) (n := 0) (as := [iv (byA B ((B 102 4).toNat) (B 102 7))]) (r := [iv (bi (isWd (byA B ((B 102 4).toNat) ((B 102 7) - 1))))]) (ck_at dt_Wa_isEdge 13 rfl) own_Wa_isEdge (cm_at 114 rfl) (cs_at 23 rfl) vk_Wa_isWord rfl nl_Wa_isWord rfl rfl rfl rfl  (Y_Wa_isWord (by omega) hS p6 ⟨rfl, rfl⟩) ?_
  refine y_icmp (t := 37) (ck_at dt_Wa_isEdge 14 rfl) rfl (R32_bi _) (R32_bi _) ?_ ?_
  · intro q; have w := w.1 q
    refine y_op (ck_at dt_Wa_isEdge 17 rfl) rfl (o_const _) ?_
    exact y_retZ (ck_at dt_Wa_isEdge 18 rfl) rt_Wa_isEdge (by decide) w
  · intro q; have w := w.2 q
    refine y_op (ck_at dt_Wa_isEdge 15 rfl) rfl (o_const _) ?_
    refine y_goto (t := 38) (ck_at dt_Wa_isEdge 16 rfl) rfl ?_
    exact y_retZ (ck_at dt_Wa_isEdge 18 rfl) rt_Wa_isEdge (by decide) w
