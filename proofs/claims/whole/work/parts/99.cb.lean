/-! PatternTrier$Reader.see(I)I -/
def t_Re_see : List (Nat × Instr × Nat) := [(0, .aload_n 0, 1), (1, .getfield 28, 3), (4, .iload_n 1, 1), (5, .iadd, 1), (6, .istore_n 2, 1), (7, .iload_n 2, 1), (8, .aload_n 0, 1), (9, .getfield 15, 3), (12, .invokevirtual 54, 3), (15, .if_icmp .lt 5, 3), (18, .iconst (-1), 1), (19, .ireturn, 1), (20, .aload_n 0, 1), (21, .getfield 15, 3), (24, .iload_n 2, 1), (25, .invokevirtual 60, 3), (28, .istore_n 3, 1), (29, .iload_n 2, 1), (30, .sipush 200, 3), (33, .if_icmp .ge 15, 3), (36, .iload_n 3, 1), (37, .bipush 32, 2), (39, .if_icmp .lt 9, 3), (42, .iload_n 3, 1), (43, .bipush 126, 2), (45, .if_icmp .le 8, 3), (48, .bipush (-2), 2), (50, .goto 4, 3), (53, .iload_n 3, 1), (54, .ireturn, 1)]
set_option maxRecDepth 100000 in
theorem dt_Re_see : q_ck n_Re_see t_Re_see = true := by decide +kernel
def c_Re_see_0 (h1 : qH) (d : Nat) (x1 : Int) (B : qB) (Q : qO → qB → Prop) : Prop := ob 1 ((B 100 1).toNat) ∧ R32 ((B 100 2) + x1) ∧ R32 (B ((B 100 1).toNat) 1) ∧ ((B 100 2) + x1 < B ((B 100 1).toNat) 1 → bOK B ((B 100 1).toNat) ∧ ((B 100 2) + x1 ≥ 200 → Q (.inl (some (iv (-2)))) B) ∧ ((B 100 2) + x1 < 200 → R32 (byA B ((B 100 1).toNat) ((B 100 2) + x1)) ∧ (byA B ((B 100 1).toNat) ((B 100 2) + x1) < 32 → Q (.inl (some (iv (-2)))) B) ∧ (byA B ((B 100 1).toNat) ((B 100 2) + x1) ≥ 32 → (byA B ((B 100 1).toNat) ((B 100 2) + x1) ≤ 126 → Q (.inl (some (iv (byA B ((B 100 1).toNat) ((B 100 2) + x1))))) B) ∧ (byA B ((B 100 1).toNat) ((B 100 2) + x1) > 126 → Q (.inl (some (iv (-2)))) B)))) ∧ ((B 100 2) + x1 ≥ B ((B 100 1).toNat) 1 → Q (.inl (some (iv (-1)))) B)
theorem c_Re_see_0_ok {h1 : qH} {d : Nat} {x1 : Int} {B : qB} {Q : qO → qB → Prop} (hd : 1 ≤ d) (hS : SH B) (w : c_Re_see_0 h1 d x1 B Q) : qY h1 (d + 1) n_Re_see 0 [some (.ref 100), some (iv x1), none, none] [] B Q := by
  unfold c_Re_see_0 at w
  obtain ⟨p1, p2, p3, w⟩ := w
  refine y_ldk (ok := q_isA) (n := 0) (ck_at dt_Re_see 0 rfl) rfl rfl (fun _ => rfl) rfl rfl ?_
  refine y_getI (K := 6) (j := 2) (a := 100) (ck_at dt_Re_see 1 rfl) own_Re_see (cf_at 25 rfl) rfl rfl rfl ⟨(SH.o hS ⟨by decide, by decide, by decide⟩), ?_⟩
  refine y_ldk (ok := q_isI) (n := 1) (ck_at dt_Re_see 2 rfl) rfl rfl (fun _ => rfl) rfl rfl ?_
  refine y_op (ck_at dt_Re_see 3 rfl) rfl o_iadd ?_
  refine y_st1 (ok := q_isI) (n := 2) (L' := [some (.ref 100), some (iv x1), some (iv ((B 100 2) + x1)), none]) (ck_at dt_Re_see 4 rfl) rfl (fun _ => rfl) (fun _ _ => rfl) rfl nl_Re_see (by decide) rfl rfl ?_
  refine y_ldk (ok := q_isI) (n := 2) (ck_at dt_Re_see 5 rfl) rfl rfl (fun _ => rfl) rfl rfl ?_
  refine y_ldk (ok := q_isA) (n := 0) (ck_at dt_Re_see 6 rfl) rfl rfl (fun _ => rfl) rfl rfl ?_
  refine y_getD (K := 6) (j := 1) (a := 100) (ck_at dt_Re_see 7 rfl) own_Re_see (cf_at 23 rfl) rfl rfl rfl ⟨(SH.o hS ⟨by decide, by decide, by decide⟩), ?_⟩
  refine y_virtP (k' := n_By_size) (n := 0) (as := []) (r := [iv ((B 100 2) + x1)]) (ck_at dt_Re_see 8 rfl) own_Re_see (cm_at 43 rfl) vk_By_size rfl nl_By_size rfl rfl rfl rfl (SH.o hS p1) (Y_By_size (by omega) hS p1 ⟨rfl, rfl⟩) ?_
  refine y_icmp (t := 20) (ck_at dt_Re_see 9 rfl) rfl p2 p3 ?_ ?_
  · intro q; have w := w.1 q
    obtain ⟨p4, w⟩ := w
    refine y_ldk (ok := q_isA) (n := 0) (ck_at dt_Re_see 12 rfl) rfl rfl (fun _ => rfl) rfl rfl ?_
    refine y_getD (K := 6) (j := 1) (a := 100) (ck_at dt_Re_see 13 rfl) own_Re_see (cf_at 23 rfl) rfl rfl rfl ⟨(SH.o hS ⟨by decide, by decide, by decide⟩), ?_⟩
    refine y_ldk (ok := q_isI) (n := 2) (ck_at dt_Re_see 14 rfl) rfl rfl (fun _ => rfl) rfl rfl ?_
    refine y_virtP (k' := n_By_at) (n := 0) (as := [iv ((B 100 2) + x1)]) (r := []) (ck_at dt_Re_see 15 rfl) own_Re_see (cm_at 44 rfl) vk_By_at rfl nl_By_at rfl rfl rfl rfl (SH.o hS p1) (Y_By_at (by omega) hS p1 p4 p2 ⟨rfl, rfl⟩) ?_
    refine y_st1 (ok := q_isI) (n := 3) (L' := [some (.ref 100), some (iv x1), some (iv ((B 100 2) + x1)), some (iv (byA B ((B 100 1).toNat) ((B 100 2) + x1)))]) (ck_at dt_Re_see 16 rfl) rfl (fun _ => rfl) (fun _ _ => rfl) rfl nl_Re_see (by decide) rfl rfl ?_
    refine y_ldk (ok := q_isI) (n := 2) (ck_at dt_Re_see 17 rfl) rfl rfl (fun _ => rfl) rfl rfl ?_
    refine y_op (ck_at dt_Re_see 18 rfl) rfl (o_sipush _ (by decide)) ?_
    refine y_icmp (t := 48) (ck_at dt_Re_see 19 rfl) rfl p2 ⟨by decide, by decide⟩ ?_ ?_
    · intro q; have w := w.1 q
      refine y_op (ck_at dt_Re_see 26 rfl) rfl (o_bipush _ (by decide)) ?_
      refine y_goto (t := 54) (ck_at dt_Re_see 27 rfl) rfl ?_
      exact y_retI (ck_at dt_Re_see 29 rfl) rt_Re_see w
    · intro q; have w := w.2 q
      obtain ⟨p5, w⟩ := w
      refine y_ldk (ok := q_isI) (n := 3) (ck_at dt_Re_see 20 rfl) rfl rfl (fun _ => rfl) rfl rfl ?_
      refine y_op (ck_at dt_Re_see 21 rfl) rfl (o_bipush _ (by decide)) ?_
      refine y_icmp (t := 48) (ck_at dt_Re_see 22 rfl) rfl p5 ⟨by decide, by decide⟩ ?_ ?_
      · intro q; have w := w.1 q
        refine y_op (ck_at dt_Re_see 26 rfl) rfl (o_bipush _ (by decide)) ?_
        refine y_goto (t := 54) (ck_at dt_Re_see 27 rfl) rfl ?_
        exact y_retI (ck_at dt_Re_see 29 rfl) rt_Re_see w
      · intro q; have w := w.2 q
        refine y_ldk (ok := q_isI) (n := 3) (ck_at dt_Re_see 23 rfl) rfl rfl (fun _ => rfl) rfl rfl ?_
        refine y_op (ck_at dt_Re_see 24 rfl) rfl (o_bipush _ (by decide)) ?_
        refine y_icmp (t := 53) (ck_at dt_Re_see 25 rfl) rfl p5 ⟨by decide, by decide⟩ ?_ ?_
        · intro q; have w := w.1 q
          refine y_ldk (ok := q_isI) (n := 3) (ck_at dt_Re_see 28 rfl) rfl rfl (fun _ => rfl) rfl rfl ?_
          exact y_retI (ck_at dt_Re_see 29 rfl) rt_Re_see w
        · intro q; have w := w.2 q
          refine y_op (ck_at dt_Re_see 26 rfl) rfl (o_bipush _ (by decide)) ?_
          refine y_goto (t := 54) (ck_at dt_Re_see 27 rfl) rfl ?_
          exact y_retI (ck_at dt_Re_see 29 rfl) rt_Re_see w
  · intro q; have w := w.2 q
    refine y_op (ck_at dt_Re_see 10 rfl) rfl (o_const _) ?_
    exact y_retI (ck_at dt_Re_see 11 rfl) rt_Re_see w
/-! PatternTrier$Tree.kindOf(I)I -/
def t_Tr_kindOf : List (Nat × Instr × Nat) := [(0, .aload_n 0, 1), (1, .getfield 11, 3), (4, .iload_n 1, 1), (5, .invokestatic 65, 3), (8, .ireturn, 1)]
set_option maxRecDepth 100000 in
theorem dt_Tr_kindOf : q_ck n_Tr_kindOf t_Tr_kindOf = true := by decide +kernel
def c_Tr_kindOf_0 (h1 : qH) (d : Nat) (x1 : Int) (B : qB) (Q : qO → qB → Prop) : Prop := 0 ≤ x1 ∧ x1 < 408 ∧ Q (.inl (some (iv (B 91 x1)))) B
theorem c_Tr_kindOf_0_ok {h1 : qH} {d : Nat} {x1 : Int} {B : qB} {Q : qO → qB → Prop} (hd : 1 ≤ d) (hS : SH B) (w : c_Tr_kindOf_0 h1 d x1 B Q) : qY h1 (d + 1) n_Tr_kindOf 0 [some (.ref 90), some (iv x1)] [] B Q := by
  unfold c_Tr_kindOf_0 at w
  obtain ⟨p1, p2, w⟩ := w
  refine y_ldk (ok := q_isA) (n := 0) (ck_at dt_Tr_kindOf 0 rfl) rfl rfl (fun _ => rfl) rfl rfl ?_
  refine y_getF (r := 91) (K := 8) (j := 0) (a := 90) (ck_at dt_Tr_kindOf 1 rfl) own_Tr_kindOf (cf_at 32 rfl) rfl rfl ⟨(SH.o hS ⟨by decide, by decide, by decide⟩), ?_⟩
  refine y_ldk (ok := q_isI) (n := 1) (ck_at dt_Tr_kindOf 2 rfl) rfl rfl (fun _ => rfl) rfl rfl ?_
  refine y_stat3P (k' := n_P_cell) (n := 0) (as := [.ref 91, iv x1]) (r := []) (ck_at dt_Tr_kindOf 3 rfl) own_Tr_kindOf (cm_at 80 rfl) (cs_at 19 rfl) vk_P_cell rfl nl_P_cell rfl rfl rfl rfl  (Y_P_cell (by omega) hS (SH.a (t := 1) (a := 91) (n := 408) hS ⟨by decide, by decide, by decide, by decide⟩) (by decide) p1 p2 ⟨rfl, rfl⟩) ?_
  exact y_retI (ck_at dt_Tr_kindOf 4 rfl) rt_Tr_kindOf w
/-! PatternTrier$Tree.valueOf(I)I -/
def t_Tr_valueOf : List (Nat × Instr × Nat) := [(0, .aload_n 0, 1), (1, .getfield 15, 3), (4, .iload_n 1, 1), (5, .invokestatic 65, 3), (8, .ireturn, 1)]
set_option maxRecDepth 100000 in
theorem dt_Tr_valueOf : q_ck n_Tr_valueOf t_Tr_valueOf = true := by decide +kernel
def c_Tr_valueOf_0 (h1 : qH) (d : Nat) (x1 : Int) (B : qB) (Q : qO → qB → Prop) : Prop := 0 ≤ x1 ∧ x1 < 408 ∧ Q (.inl (some (iv (B 92 x1)))) B
theorem c_Tr_valueOf_0_ok {h1 : qH} {d : Nat} {x1 : Int} {B : qB} {Q : qO → qB → Prop} (hd : 1 ≤ d) (hS : SH B) (w : c_Tr_valueOf_0 h1 d x1 B Q) : qY h1 (d + 1) n_Tr_valueOf 0 [some (.ref 90), some (iv x1)] [] B Q := by
  unfold c_Tr_valueOf_0 at w
  obtain ⟨p1, p2, w⟩ := w
  refine y_ldk (ok := q_isA) (n := 0) (ck_at dt_Tr_valueOf 0 rfl) rfl rfl (fun _ => rfl) rfl rfl ?_
  refine y_getF (r := 92) (K := 8) (j := 1) (a := 90) (ck_at dt_Tr_valueOf 1 rfl) own_Tr_valueOf (cf_at 33 rfl) rfl rfl ⟨(SH.o hS ⟨by decide, by decide, by decide⟩), ?_⟩
  refine y_ldk (ok := q_isI) (n := 1) (ck_at dt_Tr_valueOf 2 rfl) rfl rfl (fun _ => rfl) rfl rfl ?_
  refine y_stat3P (k' := n_P_cell) (n := 0) (as := [.ref 92, iv x1]) (r := []) (ck_at dt_Tr_valueOf 3 rfl) own_Tr_valueOf (cm_at 80 rfl) (cs_at 19 rfl) vk_P_cell rfl nl_P_cell rfl rfl rfl rfl  (Y_P_cell (by omega) hS (SH.a (t := 1) (a := 92) (n := 408) hS ⟨by decide, by decide, by decide, by decide⟩) (by decide) p1 p2 ⟨rfl, rfl⟩) ?_
  exact y_retI (ck_at dt_Tr_valueOf 4 rfl) rt_Tr_valueOf w
/-! PatternTrier$Tree.innerOf(I)I -/
def t_Tr_innerOf : List (Nat × Instr × Nat) := [(0, .aload_n 0, 1), (1, .getfield 18, 3), (4, .iload_n 1, 1), (5, .invokestatic 65, 3), (8, .ireturn, 1)]
set_option maxRecDepth 100000 in
theorem dt_Tr_innerOf : q_ck n_Tr_innerOf t_Tr_innerOf = true := by decide +kernel
def c_Tr_innerOf_0 (h1 : qH) (d : Nat) (x1 : Int) (B : qB) (Q : qO → qB → Prop) : Prop := 0 ≤ x1 ∧ x1 < 408 ∧ Q (.inl (some (iv (B 93 x1)))) B
theorem c_Tr_innerOf_0_ok {h1 : qH} {d : Nat} {x1 : Int} {B : qB} {Q : qO → qB → Prop} (hd : 1 ≤ d) (hS : SH B) (w : c_Tr_innerOf_0 h1 d x1 B Q) : qY h1 (d + 1) n_Tr_innerOf 0 [some (.ref 90), some (iv x1)] [] B Q := by
  unfold c_Tr_innerOf_0 at w
  obtain ⟨p1, p2, w⟩ := w
  refine y_ldk (ok := q_isA) (n := 0) (ck_at dt_Tr_innerOf 0 rfl) rfl rfl (fun _ => rfl) rfl rfl ?_
  refine y_getF (r := 93) (K := 8) (j := 2) (a := 90) (ck_at dt_Tr_innerOf 1 rfl) own_Tr_innerOf (cf_at 34 rfl) rfl rfl ⟨(SH.o hS ⟨by decide, by decide, by decide⟩), ?_⟩
  refine y_ldk (ok := q_isI) (n := 1) (ck_at dt_Tr_innerOf 2 rfl) rfl rfl (fun _ => rfl) rfl rfl ?_
  refine y_stat3P (k' := n_P_cell) (n := 0) (as := [.ref 93, iv x1]) (r := []) (ck_at dt_Tr_innerOf 3 rfl) own_Tr_innerOf (cm_at 80 rfl) (cs_at 19 rfl) vk_P_cell rfl nl_P_cell rfl rfl rfl rfl  (Y_P_cell (by omega) hS (SH.a (t := 1) (a := 93) (n := 408) hS ⟨by decide, by decide, by decide, by decide⟩) (by decide) p1 p2 ⟨rfl, rfl⟩) ?_
  exact y_retI (ck_at dt_Tr_innerOf 4 rfl) rt_Tr_innerOf w
/-! PatternTrier$Tree.beforeOf(I)I -/
def t_Tr_beforeOf : List (Nat × Instr × Nat) := [(0, .aload_n 0, 1), (1, .getfield 21, 3), (4, .iload_n 1, 1), (5, .invokestatic 65, 3), (8, .ireturn, 1)]
set_option maxRecDepth 100000 in
theorem dt_Tr_beforeOf : q_ck n_Tr_beforeOf t_Tr_beforeOf = true := by decide +kernel
def c_Tr_beforeOf_0 (h1 : qH) (d : Nat) (x1 : Int) (B : qB) (Q : qO → qB → Prop) : Prop := 0 ≤ x1 ∧ x1 < 408 ∧ Q (.inl (some (iv (B 94 x1)))) B
theorem c_Tr_beforeOf_0_ok {h1 : qH} {d : Nat} {x1 : Int} {B : qB} {Q : qO → qB → Prop} (hd : 1 ≤ d) (hS : SH B) (w : c_Tr_beforeOf_0 h1 d x1 B Q) : qY h1 (d + 1) n_Tr_beforeOf 0 [some (.ref 90), some (iv x1)] [] B Q := by
  unfold c_Tr_beforeOf_0 at w
  obtain ⟨p1, p2, w⟩ := w
  refine y_ldk (ok := q_isA) (n := 0) (ck_at dt_Tr_beforeOf 0 rfl) rfl rfl (fun _ => rfl) rfl rfl ?_
  refine y_getF (r := 94) (K := 8) (j := 3) (a := 90) (ck_at dt_Tr_beforeOf 1 rfl) own_Tr_beforeOf (cf_at 35 rfl) rfl rfl ⟨(SH.o hS ⟨by decide, by decide, by decide⟩), ?_⟩
  refine y_ldk (ok := q_isI) (n := 1) (ck_at dt_Tr_beforeOf 2 rfl) rfl rfl (fun _ => rfl) rfl rfl ?_
  refine y_stat3P (k' := n_P_cell) (n := 0) (as := [.ref 94, iv x1]) (r := []) (ck_at dt_Tr_beforeOf 3 rfl) own_Tr_beforeOf (cm_at 80 rfl) (cs_at 19 rfl) vk_P_cell rfl nl_P_cell rfl rfl rfl rfl  (Y_P_cell (by omega) hS (SH.a (t := 1) (a := 94) (n := 408) hS ⟨by decide, by decide, by decide, by decide⟩) (by decide) p1 p2 ⟨rfl, rfl⟩) ?_
  exact y_retI (ck_at dt_Tr_beforeOf 4 rfl) rt_Tr_beforeOf w
/-! PatternTrier$Tree.leastOf(I)I -/
def t_Tr_leastOf : List (Nat × Instr × Nat) := [(0, .aload_n 0, 1), (1, .getfield 24, 3), (4, .iload_n 1, 1), (5, .invokestatic 65, 3), (8, .ireturn, 1)]
set_option maxRecDepth 100000 in
theorem dt_Tr_leastOf : q_ck n_Tr_leastOf t_Tr_leastOf = true := by decide +kernel
def c_Tr_leastOf_0 (h1 : qH) (d : Nat) (x1 : Int) (B : qB) (Q : qO → qB → Prop) : Prop := 0 ≤ x1 ∧ x1 < 408 ∧ Q (.inl (some (iv (B 95 x1)))) B
theorem c_Tr_leastOf_0_ok {h1 : qH} {d : Nat} {x1 : Int} {B : qB} {Q : qO → qB → Prop} (hd : 1 ≤ d) (hS : SH B) (w : c_Tr_leastOf_0 h1 d x1 B Q) : qY h1 (d + 1) n_Tr_leastOf 0 [some (.ref 90), some (iv x1)] [] B Q := by
  unfold c_Tr_leastOf_0 at w
  obtain ⟨p1, p2, w⟩ := w
  refine y_ldk (ok := q_isA) (n := 0) (ck_at dt_Tr_leastOf 0 rfl) rfl rfl (fun _ => rfl) rfl rfl ?_
  refine y_getF (r := 95) (K := 8) (j := 4) (a := 90) (ck_at dt_Tr_leastOf 1 rfl) own_Tr_leastOf (cf_at 36 rfl) rfl rfl ⟨(SH.o hS ⟨by decide, by decide, by decide⟩), ?_⟩
  refine y_ldk (ok := q_isI) (n := 1) (ck_at dt_Tr_leastOf 2 rfl) rfl rfl (fun _ => rfl) rfl rfl ?_
  refine y_stat3P (k' := n_P_cell) (n := 0) (as := [.ref 95, iv x1]) (r := []) (ck_at dt_Tr_leastOf 3 rfl) own_Tr_leastOf (cm_at 80 rfl) (cs_at 19 rfl) vk_P_cell rfl nl_P_cell rfl rfl rfl rfl  (Y_P_cell (by omega) hS (SH.a (t := 1) (a := 95) (n := 408) hS ⟨by decide, by decide, by decide, by decide⟩) (by decide) p1 p2 ⟨rfl, rfl⟩) ?_
  exact y_retI (ck_at dt_Tr_leastOf 4 rfl) rt_Tr_leastOf w
/-! PatternTrier$Tree.mostOf(I)I -/
def t_Tr_mostOf : List (Nat × Instr × Nat) := [(0, .aload_n 0, 1), (1, .getfield 27, 3), (4, .iload_n 1, 1), (5, .invokestatic 65, 3), (8, .ireturn, 1)]
set_option maxRecDepth 100000 in
theorem dt_Tr_mostOf : q_ck n_Tr_mostOf t_Tr_mostOf = true := by decide +kernel
def c_Tr_mostOf_0 (h1 : qH) (d : Nat) (x1 : Int) (B : qB) (Q : qO → qB → Prop) : Prop := 0 ≤ x1 ∧ x1 < 408 ∧ Q (.inl (some (iv (B 96 x1)))) B
theorem c_Tr_mostOf_0_ok {h1 : qH} {d : Nat} {x1 : Int} {B : qB} {Q : qO → qB → Prop} (hd : 1 ≤ d) (hS : SH B) (w : c_Tr_mostOf_0 h1 d x1 B Q) : qY h1 (d + 1) n_Tr_mostOf 0 [some (.ref 90), some (iv x1)] [] B Q := by
  unfold c_Tr_mostOf_0 at w
  obtain ⟨p1, p2, w⟩ := w
  refine y_ldk (ok := q_isA) (n := 0) (ck_at dt_Tr_mostOf 0 rfl) rfl rfl (fun _ => rfl) rfl rfl ?_
  refine y_getF (r := 96) (K := 8) (j := 5) (a := 90) (ck_at dt_Tr_mostOf 1 rfl) own_Tr_mostOf (cf_at 37 rfl) rfl rfl ⟨(SH.o hS ⟨by decide, by decide, by decide⟩), ?_⟩
  refine y_ldk (ok := q_isI) (n := 1) (ck_at dt_Tr_mostOf 2 rfl) rfl rfl (fun _ => rfl) rfl rfl ?_
  refine y_stat3P (k' := n_P_cell) (n := 0) (as := [.ref 96, iv x1]) (r := []) (ck_at dt_Tr_mostOf 3 rfl) own_Tr_mostOf (cm_at 80 rfl) (cs_at 19 rfl) vk_P_cell rfl nl_P_cell rfl rfl rfl rfl  (Y_P_cell (by omega) hS (SH.a (t := 1) (a := 96) (n := 408) hS ⟨by decide, by decide, by decide, by decide⟩) (by decide) p1 p2 ⟨rfl, rfl⟩) ?_
  exact y_retI (ck_at dt_Tr_mostOf 4 rfl) rt_Tr_mostOf w
/-! PatternTrier$Tree.weightOf(I)I -/
def t_Tr_weightOf : List (Nat × Instr × Nat) := [(0, .aload_n 0, 1), (1, .getfield 30, 3), (4, .iload_n 1, 1), (5, .invokestatic 65, 3), (8, .ireturn, 1)]
set_option maxRecDepth 100000 in
theorem dt_Tr_weightOf : q_ck n_Tr_weightOf t_Tr_weightOf = true := by decide +kernel
def c_Tr_weightOf_0 (h1 : qH) (d : Nat) (x1 : Int) (B : qB) (Q : qO → qB → Prop) : Prop := 0 ≤ x1 ∧ x1 < 408 ∧ Q (.inl (some (iv (B 97 x1)))) B
theorem c_Tr_weightOf_0_ok {h1 : qH} {d : Nat} {x1 : Int} {B : qB} {Q : qO → qB → Prop} (hd : 1 ≤ d) (hS : SH B) (w : c_Tr_weightOf_0 h1 d x1 B Q) : qY h1 (d + 1) n_Tr_weightOf 0 [some (.ref 90), some (iv x1)] [] B Q := by
  unfold c_Tr_weightOf_0 at w
  obtain ⟨p1, p2, w⟩ := w
  refine y_ldk (ok := q_isA) (n := 0) (ck_at dt_Tr_weightOf 0 rfl) rfl rfl (fun _ => rfl) rfl rfl ?_
  refine y_getF (r := 97) (K := 8) (j := 6) (a := 90) (ck_at dt_Tr_weightOf 1 rfl) own_Tr_weightOf (cf_at 38 rfl) rfl rfl ⟨(SH.o hS ⟨by decide, by decide, by decide⟩), ?_⟩
  refine y_ldk (ok := q_isI) (n := 1) (ck_at dt_Tr_weightOf 2 rfl) rfl rfl (fun _ => rfl) rfl rfl ?_
  refine y_stat3P (k' := n_P_cell) (n := 0) (as := [.ref 97, iv x1]) (r := []) (ck_at dt_Tr_weightOf 3 rfl) own_Tr_weightOf (cm_at 80 rfl) (cs_at 19 rfl) vk_P_cell rfl nl_P_cell rfl rfl rfl rfl  (Y_P_cell (by omega) hS (SH.a (t := 1) (a := 97) (n := 408) hS ⟨by decide, by decide, by decide, by decide⟩) (by decide) p1 p2 ⟨rfl, rfl⟩) ?_
  exact y_retI (ck_at dt_Tr_weightOf 4 rfl) rt_Tr_weightOf w
/-! PatternTrier$Tree.chain(II)V -/
def t_Tr_chain : List (Nat × Instr × Nat) := [(0, .aload_n 0, 1), (1, .getfield 21, 3), (4, .iload_n 1, 1), (5, .iload_n 2, 1), (6, .invokestatic 47, 3), (9, .return_, 1)]
set_option maxRecDepth 100000 in
theorem dt_Tr_chain : q_ck n_Tr_chain t_Tr_chain = true := by decide +kernel
def c_Tr_chain_0 (h1 : qH) (d : Nat) (x1 : Int) (x2 : Int) (B : qB) (Q : qO → qB → Prop) : Prop := 0 ≤ x1 ∧ x1 < 408 ∧ Q (.inl none) (u2 B 94 x1 x2)
theorem c_Tr_chain_0_ok {h1 : qH} {d : Nat} {x1 : Int} {x2 : Int} {B : qB} {Q : qO → qB → Prop} (hd : 1 ≤ d) (hS : SH B) (w : c_Tr_chain_0 h1 d x1 x2 B Q) : qY h1 (d + 1) n_Tr_chain 0 [some (.ref 90), some (iv x1), some (iv x2)] [] B Q := by
  unfold c_Tr_chain_0 at w
  obtain ⟨p1, p2, w⟩ := w
  refine y_ldk (ok := q_isA) (n := 0) (ck_at dt_Tr_chain 0 rfl) rfl rfl (fun _ => rfl) rfl rfl ?_
  refine y_getF (r := 94) (K := 8) (j := 3) (a := 90) (ck_at dt_Tr_chain 1 rfl) own_Tr_chain (cf_at 35 rfl) rfl rfl ⟨(SH.o hS ⟨by decide, by decide, by decide⟩), ?_⟩
  refine y_ldk (ok := q_isI) (n := 1) (ck_at dt_Tr_chain 2 rfl) rfl rfl (fun _ => rfl) rfl rfl ?_
  refine y_ldk (ok := q_isI) (n := 2) (ck_at dt_Tr_chain 3 rfl) rfl rfl (fun _ => rfl) rfl rfl ?_
  refine y_stat3V (k' := n_P_put) (n := 0) (as := [.ref 94, iv x1, iv x2]) (r := []) (ck_at dt_Tr_chain 4 rfl) own_Tr_chain (cm_at 77 rfl) (cs_at 18 rfl) vk_P_put rfl nl_P_put rfl rfl rfl rfl  (Y_P_put (by omega) hS (SH.a (t := 1) (a := 94) (n := 408) hS ⟨by decide, by decide, by decide, by decide⟩) (by decide) (by decide) p1 p2 ⟨rfl, rfl⟩) ?_
  have hS3 := SH_u2 (b := 94) (x := x1) (z := x2) hS p1
  exact y_ret0 (ck_at dt_Tr_chain 5 rfl) rt_Tr_chain w
/-! PatternTrier$Tree.add(IIII)I -/
def t_Tr_add : List (Nat × Instr × Nat) := [(0, .aload_n 0, 1), (1, .getfield 40, 3), (4, .iconst 1, 1), (5, .if_icmp .lt 13, 3), (8, .aload_n 0, 1), (9, .getfield 40, 3), (12, .sipush 408, 3), (15, .if_icmp .lt 5, 3), (18, .iconst 0, 1), (19, .ireturn, 1), (20, .aload_n 0, 1), (21, .getfield 40, 3), (24, .istore 5, 2), (26, .aload_n 0, 1), (27, .dup, 1), (28, .getfield 40, 3), (31, .iconst 1, 1), (32, .iadd, 1), (33, .putfield 40, 3), (36, .aload_n 0, 1), (37, .getfield 11, 3), (40, .iload 5, 2), (42, .iload_n 1, 1), (43, .invokestatic 47, 3), (46, .aload_n 0, 1), (47, .getfield 15, 3), (50, .iload 5, 2), (52, .iload_n 2, 1), (53, .invokestatic 47, 3), (56, .aload_n 0, 1), (57, .getfield 18, 3), (60, .iload 5, 2), (62, .iload_n 3, 1), (63, .invokestatic 47, 3), (66, .aload_n 0, 1), (67, .getfield 21, 3), (70, .iload 5, 2), (72, .iconst 0, 1), (73, .invokestatic 47, 3), (76, .aload_n 0, 1), (77, .getfield 30, 3), (80, .iload 5, 2), (82, .iload 4, 2), (84, .sipush 401, 3), (87, .invokestatic 51, 3), (90, .invokestatic 47, 3), (93, .iload 5, 2), (95, .ireturn, 1)]
set_option maxRecDepth 100000 in
theorem dt_Tr_add : q_ck n_Tr_add t_Tr_add = true := by decide +kernel
def c_Tr_add_0 (h1 : qH) (d : Nat) (x1 : Int) (x2 : Int) (x3 : Int) (x4 : Int) (B : qB) (Q : qO → qB → Prop) : Prop := R32 (B 90 8) ∧ (B 90 8 < 1 → Q (.inl (some (iv 0))) B) ∧ (B 90 8 ≥ 1 → (B 90 8 < 408 → 0 ≤ (B 90 8) ∧ (B 90 8) < 408 ∧ R32 x4 ∧ Q (.inl (some (iv (B 90 8)))) (u2 (u2 (u2 (u2 (u2 (u2 B 90 8 ((B 90 8) + 1)) 91 (B 90 8) x1) 92 (B 90 8) x2) 93 (B 90 8) x3) 94 (B 90 8) 0) 97 (B 90 8) (min x4 401))) ∧ (B 90 8 ≥ 408 → Q (.inl (some (iv 0))) B))
theorem c_Tr_add_0_ok {h1 : qH} {d : Nat} {x1 : Int} {x2 : Int} {x3 : Int} {x4 : Int} {B : qB} {Q : qO → qB → Prop} (hd : 1 ≤ d) (hS : SH B) (w : c_Tr_add_0 h1 d x1 x2 x3 x4 B Q) : qY h1 (d + 1) n_Tr_add 0 [some (.ref 90), some (iv x1), some (iv x2), some (iv x3), some (iv x4), none] [] B Q := by
  unfold c_Tr_add_0 at w
  obtain ⟨p1, w⟩ := w
  refine y_ldk (ok := q_isA) (n := 0) (ck_at dt_Tr_add 0 rfl) rfl rfl (fun _ => rfl) rfl rfl ?_
  refine y_getI (K := 8) (j := 8) (a := 90) (ck_at dt_Tr_add 1 rfl) own_Tr_add (cf_at 40 rfl) rfl rfl rfl ⟨(SH.o hS ⟨by decide, by decide, by decide⟩), ?_⟩
  refine y_op (ck_at dt_Tr_add 2 rfl) rfl (o_const _) ?_
  refine y_icmp (t := 18) (ck_at dt_Tr_add 3 rfl) rfl p1 ⟨by decide, by decide⟩ ?_ ?_
  · intro q; have w := w.1 q
    refine y_op (ck_at dt_Tr_add 8 rfl) rfl (o_const _) ?_
    exact y_retI (ck_at dt_Tr_add 9 rfl) rt_Tr_add w
  · intro q; have w := w.2 q
    refine y_ldk (ok := q_isA) (n := 0) (ck_at dt_Tr_add 4 rfl) rfl rfl (fun _ => rfl) rfl rfl ?_
    refine y_getI (K := 8) (j := 8) (a := 90) (ck_at dt_Tr_add 5 rfl) own_Tr_add (cf_at 40 rfl) rfl rfl rfl ⟨(SH.o hS ⟨by decide, by decide, by decide⟩), ?_⟩
    refine y_op (ck_at dt_Tr_add 6 rfl) rfl (o_sipush _ (by decide)) ?_
    refine y_icmp (t := 20) (ck_at dt_Tr_add 7 rfl) rfl p1 ⟨by decide, by decide⟩ ?_ ?_
    · intro q; have w := w.1 q
      obtain ⟨p3, p4, p9, w⟩ := w
      refine y_ldk (ok := q_isA) (n := 0) (ck_at dt_Tr_add 10 rfl) rfl rfl (fun _ => rfl) rfl rfl ?_
      refine y_getI (K := 8) (j := 8) (a := 90) (ck_at dt_Tr_add 11 rfl) own_Tr_add (cf_at 40 rfl) rfl rfl rfl ⟨(SH.o hS ⟨by decide, by decide, by decide⟩), ?_⟩
      refine y_st1 (ok := q_isI) (n := 5) (L' := [some (.ref 90), some (iv x1), some (iv x2), some (iv x3), some (iv x4), some (iv (B 90 8))]) (ck_at dt_Tr_add 12 rfl) rfl (fun _ => rfl) (fun _ _ => rfl) rfl nl_Tr_add (by decide) rfl rfl ?_
      refine y_ldk (ok := q_isA) (n := 0) (ck_at dt_Tr_add 13 rfl) rfl rfl (fun _ => rfl) rfl rfl ?_
      refine y_op (ck_at dt_Tr_add 14 rfl) rfl rfl ?_
      refine y_getI (K := 8) (j := 8) (a := 90) (ck_at dt_Tr_add 15 rfl) own_Tr_add (cf_at 40 rfl) rfl rfl rfl ⟨(SH.o hS ⟨by decide, by decide, by decide⟩), ?_⟩
      refine y_op (ck_at dt_Tr_add 16 rfl) rfl (o_const _) ?_
      refine y_op (ck_at dt_Tr_add 17 rfl) rfl o_iadd ?_
      refine y_putI (K := 8) (j := 8) (a := 90) (ck_at dt_Tr_add 18 rfl) own_Tr_add (cf_at 40 rfl) rfl rfl rfl rfl rfl ⟨⟨SH.o hS ⟨by decide, by decide, by decide⟩, by decide⟩, ?_⟩
      have hS2 := SH_u2 (b := 90) (x := 8) (z := (B 90 8) + 1) hS (by decide)
      refine y_ldk (ok := q_isA) (n := 0) (ck_at dt_Tr_add 19 rfl) rfl rfl (fun _ => rfl) rfl rfl ?_
      refine y_getF (r := 91) (K := 8) (j := 0) (a := 90) (ck_at dt_Tr_add 20 rfl) own_Tr_add (cf_at 32 rfl) rfl rfl ⟨(SH.o hS2 ⟨by decide, by decide, by decide⟩), ?_⟩
      refine y_ldk (ok := q_isI) (n := 5) (ck_at dt_Tr_add 21 rfl) rfl rfl (fun _ => rfl) rfl rfl ?_
      refine y_ldk (ok := q_isI) (n := 1) (ck_at dt_Tr_add 22 rfl) rfl rfl (fun _ => rfl) rfl rfl ?_
      refine y_stat3V (k' := n_P_put) (n := 0) (as := [.ref 91, iv (B 90 8), iv x1]) (r := []) (ck_at dt_Tr_add 23 rfl) own_Tr_add (cm_at 77 rfl) (cs_at 18 rfl) vk_P_put rfl nl_P_put rfl rfl rfl rfl  (Y_P_put (by omega) hS2 (SH.a (t := 1) (a := 91) (n := 408) hS2 ⟨by decide, by decide, by decide, by decide⟩) (by decide) (by decide) p3 p4 ⟨rfl, rfl⟩) ?_
      have hS5 := SH_u2 (b := 91) (x := (B 90 8)) (z := x1) hS2 p3
      refine y_ldk (ok := q_isA) (n := 0) (ck_at dt_Tr_add 24 rfl) rfl rfl (fun _ => rfl) rfl rfl ?_
      refine y_getF (r := 92) (K := 8) (j := 1) (a := 90) (ck_at dt_Tr_add 25 rfl) own_Tr_add (cf_at 33 rfl) rfl rfl ⟨(SH.o hS5 ⟨by decide, by decide, by decide⟩), ?_⟩
      refine y_ldk (ok := q_isI) (n := 5) (ck_at dt_Tr_add 26 rfl) rfl rfl (fun _ => rfl) rfl rfl ?_
      refine y_ldk (ok := q_isI) (n := 2) (ck_at dt_Tr_add 27 rfl) rfl rfl (fun _ => rfl) rfl rfl ?_
      refine y_stat3V (k' := n_P_put) (n := 0) (as := [.ref 92, iv (B 90 8), iv x2]) (r := []) (ck_at dt_Tr_add 28 rfl) own_Tr_add (cm_at 77 rfl) (cs_at 18 rfl) vk_P_put rfl nl_P_put rfl rfl rfl rfl  (Y_P_put (by omega) hS5 (SH.a (t := 1) (a := 92) (n := 408) hS5 ⟨by decide, by decide, by decide, by decide⟩) (by decide) (by decide) p3 p4 ⟨rfl, rfl⟩) ?_
      have hS6 := SH_u2 (b := 92) (x := (B 90 8)) (z := x2) hS5 p3
      refine y_ldk (ok := q_isA) (n := 0) (ck_at dt_Tr_add 29 rfl) rfl rfl (fun _ => rfl) rfl rfl ?_
      refine y_getF (r := 93) (K := 8) (j := 2) (a := 90) (ck_at dt_Tr_add 30 rfl) own_Tr_add (cf_at 34 rfl) rfl rfl ⟨(SH.o hS6 ⟨by decide, by decide, by decide⟩), ?_⟩
      refine y_ldk (ok := q_isI) (n := 5) (ck_at dt_Tr_add 31 rfl) rfl rfl (fun _ => rfl) rfl rfl ?_
      refine y_ldk (ok := q_isI) (n := 3) (ck_at dt_Tr_add 32 rfl) rfl rfl (fun _ => rfl) rfl rfl ?_
      refine y_stat3V (k' := n_P_put) (n := 0) (as := [.ref 93, iv (B 90 8), iv x3]) (r := []) (ck_at dt_Tr_add 33 rfl) own_Tr_add (cm_at 77 rfl) (cs_at 18 rfl) vk_P_put rfl nl_P_put rfl rfl rfl rfl  (Y_P_put (by omega) hS6 (SH.a (t := 1) (a := 93) (n := 408) hS6 ⟨by decide, by decide, by decide, by decide⟩) (by decide) (by decide) p3 p4 ⟨rfl, rfl⟩) ?_
      have hS7 := SH_u2 (b := 93) (x := (B 90 8)) (z := x3) hS6 p3
      refine y_ldk (ok := q_isA) (n := 0) (ck_at dt_Tr_add 34 rfl) rfl rfl (fun _ => rfl) rfl rfl ?_
      refine y_getF (r := 94) (K := 8) (j := 3) (a := 90) (ck_at dt_Tr_add 35 rfl) own_Tr_add (cf_at 35 rfl) rfl rfl ⟨(SH.o hS7 ⟨by decide, by decide, by decide⟩), ?_⟩
      refine y_ldk (ok := q_isI) (n := 5) (ck_at dt_Tr_add 36 rfl) rfl rfl (fun _ => rfl) rfl rfl ?_
      refine y_op (ck_at dt_Tr_add 37 rfl) rfl (o_const _) ?_
      refine y_stat3V (k' := n_P_put) (n := 0) (as := [.ref 94, iv (B 90 8), iv 0]) (r := []) (ck_at dt_Tr_add 38 rfl) own_Tr_add (cm_at 77 rfl) (cs_at 18 rfl) vk_P_put rfl nl_P_put rfl rfl rfl rfl  (Y_P_put (by omega) hS7 (SH.a (t := 1) (a := 94) (n := 408) hS7 ⟨by decide, by decide, by decide, by decide⟩) (by decide) (by decide) p3 p4 ⟨rfl, rfl⟩) ?_
      have hS8 := SH_u2 (b := 94) (x := (B 90 8)) (z := 0) hS7 p3
      refine y_ldk (ok := q_isA) (n := 0) (ck_at dt_Tr_add 39 rfl) rfl rfl (fun _ => rfl) rfl rfl ?_
      refine y_getF (r := 97) (K := 8) (j := 6) (a := 90) (ck_at dt_Tr_add 40 rfl) own_Tr_add (cf_at 38 rfl) rfl rfl ⟨(SH.o hS8 ⟨by decide, by decide, by decide⟩), ?_⟩
      refine y_ldk (ok := q_isI) (n := 5) (ck_at dt_Tr_add 41 rfl) rfl rfl (fun _ => rfl) rfl rfl ?_
      refine y_ldk (ok := q_isI) (n := 4) (ck_at dt_Tr_add 42 rfl) rfl rfl (fun _ => rfl) rfl rfl ?_
      refine y_op (ck_at dt_Tr_add 43 rfl) rfl (o_sipush _ (by decide)) ?_
      refine y_mm (b := false) (ck_at dt_Tr_add 44 rfl) own_Tr_add (by decide +kernel) rfl p9 ⟨by decide, by decide⟩ ?_
      rw [if_neg (by decide)]
      refine y_stat3V (k' := n_P_put) (n := 0) (as := [.ref 97, iv (B 90 8), iv (min x4 401)]) (r := []) (ck_at dt_Tr_add 45 rfl) own_Tr_add (cm_at 77 rfl) (cs_at 18 rfl) vk_P_put rfl nl_P_put rfl rfl rfl rfl  (Y_P_put (by omega) hS8 (SH.a (t := 1) (a := 97) (n := 408) hS8 ⟨by decide, by decide, by decide, by decide⟩) (by decide) (by decide) p3 p4 ⟨rfl, rfl⟩) ?_
      have hS10 := SH_u2 (b := 97) (x := (B 90 8)) (z := (min x4 401)) hS8 p3
      refine y_ldk (ok := q_isI) (n := 5) (ck_at dt_Tr_add 46 rfl) rfl rfl (fun _ => rfl) rfl rfl ?_
      exact y_retI (ck_at dt_Tr_add 47 rfl) rt_Tr_add w
    · intro q; have w := w.2 q
      refine y_op (ck_at dt_Tr_add 8 rfl) rfl (o_const _) ?_
      exact y_retI (ck_at dt_Tr_add 9 rfl) rt_Tr_add w
/-! PatternTrier$Tree.clear()V -/
def t_Tr_clear : List (Nat × Instr × Nat) := [(0, .aload_n 0, 1), (1, .iconst 1, 1), (2, .putfield 40, 3), (5, .aload_n 0, 1), (6, .getfield 36, 3), (9, .invokevirtual 44, 3), (12, .return_, 1)]
set_option maxRecDepth 100000 in
theorem dt_Tr_clear : q_ck n_Tr_clear t_Tr_clear = true := by decide +kernel
def c_Tr_clear_0 (h1 : qH) (d : Nat) (B : qB) (Q : qO → qB → Prop) : Prop := Q (.inl none) (u2 (u2 B 90 8 1) 98 1 0)
theorem c_Tr_clear_0_ok {h1 : qH} {d : Nat} {B : qB} {Q : qO → qB → Prop} (hd : 1 ≤ d) (hS : SH B) (w : c_Tr_clear_0 h1 d B Q) : qY h1 (d + 1) n_Tr_clear 0 [some (.ref 90)] [] B Q := by
  unfold c_Tr_clear_0 at w
  refine y_ldk (ok := q_isA) (n := 0) (ck_at dt_Tr_clear 0 rfl) rfl rfl (fun _ => rfl) rfl rfl ?_
  refine y_op (ck_at dt_Tr_clear 1 rfl) rfl (o_const _) ?_
  refine y_putI (K := 8) (j := 8) (a := 90) (ck_at dt_Tr_clear 2 rfl) own_Tr_clear (cf_at 40 rfl) rfl rfl rfl rfl rfl ⟨⟨SH.o hS ⟨by decide, by decide, by decide⟩, by decide⟩, ?_⟩
  have hS1 := SH_u2 (b := 90) (x := 8) (z := 1) hS (by decide)
  refine y_ldk (ok := q_isA) (n := 0) (ck_at dt_Tr_clear 3 rfl) rfl rfl (fun _ => rfl) rfl rfl ?_
  refine y_getF (r := 98) (K := 8) (j := 7) (a := 90) (ck_at dt_Tr_clear 4 rfl) own_Tr_clear (cf_at 39 rfl) rfl rfl ⟨(SH.o hS1 ⟨by decide, by decide, by decide⟩), ?_⟩
  refine y_virtV (k' := n_Se_clear) (n := 0) (as := []) (r := []) (ck_at dt_Tr_clear 5 rfl) own_Tr_clear (cm_at 76 rfl) vk_Se_clear rfl nl_Se_clear rfl rfl rfl rfl (SH.o hS1 ⟨by decide, by decide, by decide⟩) (Y_Se_clear (by omega) hS1 ⟨by decide, by decide, by decide⟩ ⟨rfl, rfl⟩) ?_
  have hS2 := SH_u2 (b := 98) (x := 1) (z := 0) hS1 (by decide)
  exact y_ret0 (ck_at dt_Tr_clear 6 rfl) rt_Tr_clear w
/-! PatternTrier$Sets.holds(II)Z -/
def t_Se_holds : List (Nat × Instr × Nat) := [(0, .iload_n 2, 1), (1, .ifCond .lt 32, 3), (4, .aload_n 0, 1), (5, .getfield 9, 3), (8, .iload_n 1, 1), (9, .bipush 8, 2), (11, .imul, 1), (12, .iload_n 2, 1), (13, .iconst 5, 1), (14, .iushr, 1), (15, .iadd, 1), (16, .invokestatic 23, 3), (19, .iload_n 2, 1), (20, .bipush 31, 2), (22, .iand, 1), (23, .iushr, 1), (24, .iconst 1, 1), (25, .iand, 1), (26, .ifCond .eq 7, 3), (29, .iconst 1, 1), (30, .goto 4, 3), (33, .iconst 0, 1), (34, .ireturn, 1)]
set_option maxRecDepth 100000 in
theorem dt_Se_holds : q_ck n_Se_holds t_Se_holds = true := by decide +kernel
def c_Se_holds_0 (h1 : qH) (d : Nat) (a0 : Nat) (x1 : Int) (x2 : Int) (B : qB) (Q : qO → qB → Prop) : Prop := R32 x2 ∧ (x2 < 0 → Q (.inl (some (iv 0))) B) ∧ (x2 ≥ 0 → 0 ≤ ((x1 * 8) + (iUshr x2 5)) ∧ ((x1 * 8) + (iUshr x2 5)) < 1600 ∧ (iAnd (iUshr (B (a0 + 1) ((x1 * 8) + (iUshr x2 5))) (iAnd x2 31)) 1 = 0 → Q (.inl (some (iv 0))) B) ∧ (¬ iAnd (iUshr (B (a0 + 1) ((x1 * 8) + (iUshr x2 5))) (iAnd x2 31)) 1 = 0 → Q (.inl (some (iv 1))) B))
theorem c_Se_holds_0_ok {h1 : qH} {d : Nat} {a0 : Nat} {x1 : Int} {x2 : Int} {B : qB} {Q : qO → qB → Prop} (hd : 1 ≤ d) (hS : SH B) (ha0 : ob 7 a0) (w : c_Se_holds_0 h1 d a0 x1 x2 B Q) : qY h1 (d + 1) n_Se_holds 0 [some (.ref a0), some (iv x1), some (iv x2)] [] B Q := by
  unfold c_Se_holds_0 at w
  obtain ⟨p1, w⟩ := w
  refine y_ldk (ok := q_isI) (n := 2) (ck_at dt_Se_holds 0 rfl) rfl rfl (fun _ => rfl) rfl rfl ?_
  refine y_ifz (t := 33) (ck_at dt_Se_holds 1 rfl) rfl p1 ?_ ?_
  · intro q; have w := w.1 q
    refine y_op (ck_at dt_Se_holds 21 rfl) rfl (o_const _) ?_
    exact y_retZ (ck_at dt_Se_holds 22 rfl) rt_Se_holds (by decide) w
  · intro q; have w := w.2 q
    obtain ⟨p2, p3, w⟩ := w
    refine y_ldk (ok := q_isA) (n := 0) (ck_at dt_Se_holds 2 rfl) rfl rfl (fun _ => rfl) rfl rfl ?_
    refine y_getF (r := a0 + 1) (K := 7) (j := 0) (a := a0) (ck_at dt_Se_holds 3 rfl) own_Se_holds (cf_at 30 rfl) rfl rfl ⟨(SH.o hS ha0), ?_⟩
    refine y_ldk (ok := q_isI) (n := 1) (ck_at dt_Se_holds 4 rfl) rfl rfl (fun _ => rfl) rfl rfl ?_
    refine y_op (ck_at dt_Se_holds 5 rfl) rfl (o_bipush _ (by decide)) ?_
    refine y_op (ck_at dt_Se_holds 6 rfl) rfl o_imul ?_
    refine y_ldk (ok := q_isI) (n := 2) (ck_at dt_Se_holds 7 rfl) rfl rfl (fun _ => rfl) rfl rfl ?_
    refine y_op (ck_at dt_Se_holds 8 rfl) rfl (o_const _) ?_
    refine y_op (ck_at dt_Se_holds 9 rfl) rfl o_iushr ?_
    refine y_op (ck_at dt_Se_holds 10 rfl) rfl o_iadd ?_
    refine y_stat3P (k' := n_P_cell) (n := 0) (as := [.ref (a0 + 1), iv ((x1 * 8) + (iUshr x2 5))]) (r := []) (ck_at dt_Se_holds 11 rfl) own_Se_holds (cm_at 75 rfl) (cs_at 17 rfl) vk_P_cell rfl nl_P_cell rfl rfl rfl rfl  (Y_P_cell (by omega) hS (SH.a hS (oa7 ha0)) (by decide) p2 p3 ⟨rfl, rfl⟩) ?_
    refine y_ldk (ok := q_isI) (n := 2) (ck_at dt_Se_holds 12 rfl) rfl rfl (fun _ => rfl) rfl rfl ?_
    refine y_op (ck_at dt_Se_holds 13 rfl) rfl (o_bipush _ (by decide)) ?_
    refine y_op (ck_at dt_Se_holds 14 rfl) rfl o_iand ?_
    refine y_op (ck_at dt_Se_holds 15 rfl) rfl o_iushr ?_
    refine y_op (ck_at dt_Se_holds 16 rfl) rfl (o_const _) ?_
    refine y_op (ck_at dt_Se_holds 17 rfl) rfl o_iand ?_
    refine y_ifz (t := 33) (ck_at dt_Se_holds 18 rfl) rfl (R32_i _) ?_ ?_
    · intro q; have w := w.1 q
      refine y_op (ck_at dt_Se_holds 21 rfl) rfl (o_const _) ?_
      exact y_retZ (ck_at dt_Se_holds 22 rfl) rt_Se_holds (by decide) w
    · intro q; have w := w.2 q
      refine y_op (ck_at dt_Se_holds 19 rfl) rfl (o_const _) ?_
      refine y_goto (t := 34) (ck_at dt_Se_holds 20 rfl) rfl ?_
      exact y_retZ (ck_at dt_Se_holds 22 rfl) rt_Se_holds (by decide) w
/-! PatternTrier$Program.add(IIII)I -/
def t_Pr_add : List (Nat × Instr × Nat) := [(0, .aload_n 0, 1), (1, .getfield 47, 3), (4, .ifCond .lt 13, 3), (7, .aload_n 0, 1), (8, .getfield 47, 3), (11, .sipush 608, 3), (14, .if_icmp .lt 5, 3), (17, .iconst 0, 1), (18, .ireturn, 1), (19, .aload_n 0, 1), (20, .getfield 47, 3), (23, .istore 5, 2), (25, .aload_n 0, 1), (26, .dup, 1), (27, .getfield 47, 3), (30, .iconst 1, 1), (31, .iadd, 1), (32, .putfield 47, 3), (35, .aload_n 0, 1), (36, .getfield 11, 3), (39, .iload 5, 2), (41, .iload_n 1, 1), (42, .invokestatic 57, 3), (45, .aload_n 0, 1), (46, .getfield 15, 3), (49, .iload 5, 2), (51, .iload_n 2, 1), (52, .invokestatic 57, 3), (55, .aload_n 0, 1), (56, .getfield 18, 3), (59, .iload 5, 2), (61, .iload_n 3, 1), (62, .invokestatic 57, 3), (65, .aload_n 0, 1), (66, .getfield 21, 3), (69, .iload 5, 2), (71, .iconst 0, 1), (72, .invokestatic 57, 3), (75, .aload_n 0, 1), (76, .getfield 24, 3), (79, .iload 5, 2), (81, .iload 4, 2), (83, .invokestatic 57, 3), (86, .aload_n 0, 1), (87, .getfield 27, 3), (90, .iload 5, 2), (92, .aload_n 0, 1), (93, .getfield 50, 3), (96, .invokestatic 57, 3), (99, .iload_n 1, 1), (100, .bipush 15, 2), (102, .if_icmp .eq 21, 3), (105, .iload_n 1, 1), (106, .bipush 14, 2), (108, .if_icmp .eq 15, 3), (111, .iload_n 1, 1), (112, .bipush 7, 2), (114, .if_icmp .eq 9, 3), (117, .iload_n 1, 1), (118, .bipush 8, 2), (120, .if_icmp .ne 13, 3), (123, .aload_n 0, 1), (124, .dup, 1), (125, .getfield 50, 3), (128, .iconst 1, 1), (129, .iadd, 1), (130, .putfield 50, 3), (133, .iload 5, 2), (135, .ireturn, 1)]
set_option maxRecDepth 100000 in
theorem dt_Pr_add : q_ck n_Pr_add t_Pr_add = true := by decide +kernel
def c_Pr_add_123 (h1 : qH) (d : Nat) (a0 : Nat) (x5 : Int) (B : qB) (Q : qO → qB → Prop) : Prop := Q (.inl (some (iv x5))) (u2 B a0 8 ((B a0 8) + 1))
theorem c_Pr_add_123_ok {h1 : qH} {d : Nat} {a0 : Nat} {x5 : Int} {B : qB} {Q : qO → qB → Prop} (hd : 1 ≤ d) (hS : SH B) (ha0 : ob 5 a0) (w : c_Pr_add_123 h1 d a0 x5 B Q) : qY h1 (d + 1) n_Pr_add 123 [some (.ref a0), none, none, none, none, some (iv x5)] [] B Q := by
  unfold c_Pr_add_123 at w
  refine y_ldk (ok := q_isA) (n := 0) (ck_at dt_Pr_add 61 rfl) rfl rfl (fun _ => rfl) rfl rfl ?_
  refine y_op (ck_at dt_Pr_add 62 rfl) rfl rfl ?_
  refine y_getI (K := 5) (j := 8) (a := a0) (ck_at dt_Pr_add 63 rfl) own_Pr_add (cf_at 20 rfl) rfl rfl rfl ⟨(SH.o hS ha0), ?_⟩
  refine y_op (ck_at dt_Pr_add 64 rfl) rfl (o_const _) ?_
  refine y_op (ck_at dt_Pr_add 65 rfl) rfl o_iadd ?_
  refine y_putI (K := 5) (j := 8) (a := a0) (ck_at dt_Pr_add 66 rfl) own_Pr_add (cf_at 20 rfl) rfl rfl rfl rfl rfl ⟨⟨SH.o hS ha0, ob.lt ha0⟩, ?_⟩
  have hS1 := SH_u2 (b := a0) (x := 8) (z := (B a0 8) + 1) hS (by decide)
  refine y_ldk (ok := q_isI) (n := 5) (ck_at dt_Pr_add 67 rfl) rfl rfl (fun _ => rfl) rfl rfl ?_
  exact y_retI (ck_at dt_Pr_add 68 rfl) rt_Pr_add w
def c_Pr_add_0 (h1 : qH) (d : Nat) (a0 : Nat) (x1 : Int) (x2 : Int) (x3 : Int) (x4 : Int) (B : qB) (Q : qO → qB → Prop) : Prop := R32 (B a0 7) ∧ (B a0 7 < 0 → Q (.inl (some (iv 0))) B) ∧ (B a0 7 ≥ 0 → (B a0 7 < 608 → 0 ≤ (B a0 7) ∧ (B a0 7) < 608 ∧ R32 x1 ∧ (x1 = 15 → c_Pr_add_123 h1 d a0 (B a0 7) (u2 (u2 (u2 (u2 (u2 (u2 (u2 B a0 7 ((B a0 7) + 1)) (a0 + 1) (B a0 7) x1) (a0 + 2) (B a0 7) x2) (a0 + 3) (B a0 7) x3) (a0 + 4) (B a0 7) 0) (a0 + 5) (B a0 7) x4) (a0 + 6) (B a0 7) ((u2 (u2 (u2 (u2 (u2 (u2 B a0 7 ((B a0 7) + 1)) (a0 + 1) (B a0 7) x1) (a0 + 2) (B a0 7) x2) (a0 + 3) (B a0 7) x3) (a0 + 4) (B a0 7) 0) (a0 + 5) (B a0 7) x4) a0 8)) Q) ∧ (¬ x1 = 15 → (x1 = 14 → c_Pr_add_123 h1 d a0 (B a0 7) (u2 (u2 (u2 (u2 (u2 (u2 (u2 B a0 7 ((B a0 7) + 1)) (a0 + 1) (B a0 7) x1) (a0 + 2) (B a0 7) x2) (a0 + 3) (B a0 7) x3) (a0 + 4) (B a0 7) 0) (a0 + 5) (B a0 7) x4) (a0 + 6) (B a0 7) ((u2 (u2 (u2 (u2 (u2 (u2 B a0 7 ((B a0 7) + 1)) (a0 + 1) (B a0 7) x1) (a0 + 2) (B a0 7) x2) (a0 + 3) (B a0 7) x3) (a0 + 4) (B a0 7) 0) (a0 + 5) (B a0 7) x4) a0 8)) Q) ∧ (¬ x1 = 14 → (x1 = 7 → c_Pr_add_123 h1 d a0 (B a0 7) (u2 (u2 (u2 (u2 (u2 (u2 (u2 B a0 7 ((B a0 7) + 1)) (a0 + 1) (B a0 7) x1) (a0 + 2) (B a0 7) x2) (a0 + 3) (B a0 7) x3) (a0 + 4) (B a0 7) 0) (a0 + 5) (B a0 7) x4) (a0 + 6) (B a0 7) ((u2 (u2 (u2 (u2 (u2 (u2 B a0 7 ((B a0 7) + 1)) (a0 + 1) (B a0 7) x1) (a0 + 2) (B a0 7) x2) (a0 + 3) (B a0 7) x3) (a0 + 4) (B a0 7) 0) (a0 + 5) (B a0 7) x4) a0 8)) Q) ∧ (¬ x1 = 7 → (¬ x1 = 8 → Q (.inl (some (iv (B a0 7)))) (u2 (u2 (u2 (u2 (u2 (u2 (u2 B a0 7 ((B a0 7) + 1)) (a0 + 1) (B a0 7) x1) (a0 + 2) (B a0 7) x2) (a0 + 3) (B a0 7) x3) (a0 + 4) (B a0 7) 0) (a0 + 5) (B a0 7) x4) (a0 + 6) (B a0 7) ((u2 (u2 (u2 (u2 (u2 (u2 B a0 7 ((B a0 7) + 1)) (a0 + 1) (B a0 7) x1) (a0 + 2) (B a0 7) x2) (a0 + 3) (B a0 7) x3) (a0 + 4) (B a0 7) 0) (a0 + 5) (B a0 7) x4) a0 8))) ∧ (x1 = 8 → c_Pr_add_123 h1 d a0 (B a0 7) (u2 (u2 (u2 (u2 (u2 (u2 (u2 B a0 7 ((B a0 7) + 1)) (a0 + 1) (B a0 7) x1) (a0 + 2) (B a0 7) x2) (a0 + 3) (B a0 7) x3) (a0 + 4) (B a0 7) 0) (a0 + 5) (B a0 7) x4) (a0 + 6) (B a0 7) ((u2 (u2 (u2 (u2 (u2 (u2 B a0 7 ((B a0 7) + 1)) (a0 + 1) (B a0 7) x1) (a0 + 2) (B a0 7) x2) (a0 + 3) (B a0 7) x3) (a0 + 4) (B a0 7) 0) (a0 + 5) (B a0 7) x4) a0 8)) Q))))) ∧ (B a0 7 ≥ 608 → Q (.inl (some (iv 0))) B))
theorem c_Pr_add_0_ok {h1 : qH} {d : Nat} {a0 : Nat} {x1 : Int} {x2 : Int} {x3 : Int} {x4 : Int} {B : qB} {Q : qO → qB → Prop} (hd : 1 ≤ d) (hS : SH B) (ha0 : ob 5 a0) (w : c_Pr_add_0 h1 d a0 x1 x2 x3 x4 B Q) : qY h1 (d + 1) n_Pr_add 0 [some (.ref a0), some (iv x1), some (iv x2), some (iv x3), some (iv x4), none] [] B Q := by
  unfold c_Pr_add_0 at w
  obtain ⟨p1, w⟩ := w
  refine y_ldk (ok := q_isA) (n := 0) (ck_at dt_Pr_add 0 rfl) rfl rfl (fun _ => rfl) rfl rfl ?_
  refine y_getI (K := 5) (j := 7) (a := a0) (ck_at dt_Pr_add 1 rfl) own_Pr_add (cf_at 19 rfl) rfl rfl rfl ⟨(SH.o hS ha0), ?_⟩
  refine y_ifz (t := 17) (ck_at dt_Pr_add 2 rfl) rfl p1 ?_ ?_
  · intro q; have w := w.1 q
    refine y_op (ck_at dt_Pr_add 7 rfl) rfl (o_const _) ?_
    exact y_retI (ck_at dt_Pr_add 8 rfl) rt_Pr_add w
  · intro q; have w := w.2 q
    refine y_ldk (ok := q_isA) (n := 0) (ck_at dt_Pr_add 3 rfl) rfl rfl (fun _ => rfl) rfl rfl ?_
    refine y_getI (K := 5) (j := 7) (a := a0) (ck_at dt_Pr_add 4 rfl) own_Pr_add (cf_at 19 rfl) rfl rfl rfl ⟨(SH.o hS ha0), ?_⟩
    refine y_op (ck_at dt_Pr_add 5 rfl) rfl (o_sipush _ (by decide)) ?_
    refine y_icmp (t := 19) (ck_at dt_Pr_add 6 rfl) rfl p1 ⟨by decide, by decide⟩ ?_ ?_
    · intro q; have w := w.1 q
      obtain ⟨p3, p4, p11, w⟩ := w
      refine y_ldk (ok := q_isA) (n := 0) (ck_at dt_Pr_add 9 rfl) rfl rfl (fun _ => rfl) rfl rfl ?_
      refine y_getI (K := 5) (j := 7) (a := a0) (ck_at dt_Pr_add 10 rfl) own_Pr_add (cf_at 19 rfl) rfl rfl rfl ⟨(SH.o hS ha0), ?_⟩
      refine y_st1 (ok := q_isI) (n := 5) (L' := [some (.ref a0), some (iv x1), some (iv x2), some (iv x3), some (iv x4), some (iv (B a0 7))]) (ck_at dt_Pr_add 11 rfl) rfl (fun _ => rfl) (fun _ _ => rfl) rfl nl_Pr_add (by decide) rfl rfl ?_
      refine y_ldk (ok := q_isA) (n := 0) (ck_at dt_Pr_add 12 rfl) rfl rfl (fun _ => rfl) rfl rfl ?_
      refine y_op (ck_at dt_Pr_add 13 rfl) rfl rfl ?_
      refine y_getI (K := 5) (j := 7) (a := a0) (ck_at dt_Pr_add 14 rfl) own_Pr_add (cf_at 19 rfl) rfl rfl rfl ⟨(SH.o hS ha0), ?_⟩
      refine y_op (ck_at dt_Pr_add 15 rfl) rfl (o_const _) ?_
      refine y_op (ck_at dt_Pr_add 16 rfl) rfl o_iadd ?_
      refine y_putI (K := 5) (j := 7) (a := a0) (ck_at dt_Pr_add 17 rfl) own_Pr_add (cf_at 19 rfl) rfl rfl rfl rfl rfl ⟨⟨SH.o hS ha0, ob.lt ha0⟩, ?_⟩
      have hS2 := SH_u2 (b := a0) (x := 7) (z := (B a0 7) + 1) hS (by decide)
      refine y_ldk (ok := q_isA) (n := 0) (ck_at dt_Pr_add 18 rfl) rfl rfl (fun _ => rfl) rfl rfl ?_
      refine y_getF (r := a0 + 1) (K := 5) (j := 0) (a := a0) (ck_at dt_Pr_add 19 rfl) own_Pr_add (cf_at 9 rfl) rfl rfl ⟨(SH.o hS2 ha0), ?_⟩
      refine y_ldk (ok := q_isI) (n := 5) (ck_at dt_Pr_add 20 rfl) rfl rfl (fun _ => rfl) rfl rfl ?_
      refine y_ldk (ok := q_isI) (n := 1) (ck_at dt_Pr_add 21 rfl) rfl rfl (fun _ => rfl) rfl rfl ?_
      refine y_stat3V (k' := n_P_put) (n := 0) (as := [.ref (a0 + 1), iv (B a0 7), iv x1]) (r := []) (ck_at dt_Pr_add 22 rfl) own_Pr_add (cm_at 33 rfl) (cs_at 10 rfl) vk_P_put rfl nl_P_put rfl rfl rfl rfl  (Y_P_put (by omega) hS2 (SH.a hS2 (oa5 ha0 0 (by decide))) (by decide) (oa.lt (oa5 ha0 0 (by decide))) p3 p4 ⟨rfl, rfl⟩) ?_
      have hS5 := SH_u2 (b := (a0 + 1)) (x := (B a0 7)) (z := x1) hS2 p3
      refine y_ldk (ok := q_isA) (n := 0) (ck_at dt_Pr_add 23 rfl) rfl rfl (fun _ => rfl) rfl rfl ?_
      refine y_getF (r := a0 + 2) (K := 5) (j := 1) (a := a0) (ck_at dt_Pr_add 24 rfl) own_Pr_add (cf_at 10 rfl) rfl rfl ⟨(SH.o hS5 ha0), ?_⟩
      refine y_ldk (ok := q_isI) (n := 5) (ck_at dt_Pr_add 25 rfl) rfl rfl (fun _ => rfl) rfl rfl ?_
      refine y_ldk (ok := q_isI) (n := 2) (ck_at dt_Pr_add 26 rfl) rfl rfl (fun _ => rfl) rfl rfl ?_
      refine y_stat3V (k' := n_P_put) (n := 0) (as := [.ref (a0 + 2), iv (B a0 7), iv x2]) (r := []) (ck_at dt_Pr_add 27 rfl) own_Pr_add (cm_at 33 rfl) (cs_at 10 rfl) vk_P_put rfl nl_P_put rfl rfl rfl rfl  (Y_P_put (by omega) hS5 (SH.a hS5 (oa5 ha0 1 (by decide))) (by decide) (oa.lt (oa5 ha0 1 (by decide))) p3 p4 ⟨rfl, rfl⟩) ?_
      have hS6 := SH_u2 (b := (a0 + 2)) (x := (B a0 7)) (z := x2) hS5 p3
      refine y_ldk (ok := q_isA) (n := 0) (ck_at dt_Pr_add 28 rfl) rfl rfl (fun _ => rfl) rfl rfl ?_
      refine y_getF (r := a0 + 3) (K := 5) (j := 2) (a := a0) (ck_at dt_Pr_add 29 rfl) own_Pr_add (cf_at 11 rfl) rfl rfl ⟨(SH.o hS6 ha0), ?_⟩
      refine y_ldk (ok := q_isI) (n := 5) (ck_at dt_Pr_add 30 rfl) rfl rfl (fun _ => rfl) rfl rfl ?_
      refine y_ldk (ok := q_isI) (n := 3) (ck_at dt_Pr_add 31 rfl) rfl rfl (fun _ => rfl) rfl rfl ?_
      refine y_stat3V (k' := n_P_put) (n := 0) (as := [.ref (a0 + 3), iv (B a0 7), iv x3]) (r := []) (ck_at dt_Pr_add 32 rfl) own_Pr_add (cm_at 33 rfl) (cs_at 10 rfl) vk_P_put rfl nl_P_put rfl rfl rfl rfl  (Y_P_put (by omega) hS6 (SH.a hS6 (oa5 ha0 2 (by decide))) (by decide) (oa.lt (oa5 ha0 2 (by decide))) p3 p4 ⟨rfl, rfl⟩) ?_
      have hS7 := SH_u2 (b := (a0 + 3)) (x := (B a0 7)) (z := x3) hS6 p3
      refine y_ldk (ok := q_isA) (n := 0) (ck_at dt_Pr_add 33 rfl) rfl rfl (fun _ => rfl) rfl rfl ?_
      refine y_getF (r := a0 + 4) (K := 5) (j := 3) (a := a0) (ck_at dt_Pr_add 34 rfl) own_Pr_add (cf_at 12 rfl) rfl rfl ⟨(SH.o hS7 ha0), ?_⟩
      refine y_ldk (ok := q_isI) (n := 5) (ck_at dt_Pr_add 35 rfl) rfl rfl (fun _ => rfl) rfl rfl ?_
      refine y_op (ck_at dt_Pr_add 36 rfl) rfl (o_const _) ?_
      refine y_stat3V (k' := n_P_put) (n := 0) (as := [.ref (a0 + 4), iv (B a0 7), iv 0]) (r := []) (ck_at dt_Pr_add 37 rfl) own_Pr_add (cm_at 33 rfl) (cs_at 10 rfl) vk_P_put rfl nl_P_put rfl rfl rfl rfl  (Y_P_put (by omega) hS7 (SH.a hS7 (oa5 ha0 3 (by decide))) (by decide) (oa.lt (oa5 ha0 3 (by decide))) p3 p4 ⟨rfl, rfl⟩) ?_
      have hS8 := SH_u2 (b := (a0 + 4)) (x := (B a0 7)) (z := 0) hS7 p3
      refine y_ldk (ok := q_isA) (n := 0) (ck_at dt_Pr_add 38 rfl) rfl rfl (fun _ => rfl) rfl rfl ?_
      refine y_getF (r := a0 + 5) (K := 5) (j := 4) (a := a0) (ck_at dt_Pr_add 39 rfl) own_Pr_add (cf_at 13 rfl) rfl rfl ⟨(SH.o hS8 ha0), ?_⟩
      refine y_ldk (ok := q_isI) (n := 5) (ck_at dt_Pr_add 40 rfl) rfl rfl (fun _ => rfl) rfl rfl ?_
      refine y_ldk (ok := q_isI) (n := 4) (ck_at dt_Pr_add 41 rfl) rfl rfl (fun _ => rfl) rfl rfl ?_
      refine y_stat3V (k' := n_P_put) (n := 0) (as := [.ref (a0 + 5), iv (B a0 7), iv x4]) (r := []) (ck_at dt_Pr_add 42 rfl) own_Pr_add (cm_at 33 rfl) (cs_at 10 rfl) vk_P_put rfl nl_P_put rfl rfl rfl rfl  (Y_P_put (by omega) hS8 (SH.a hS8 (oa5 ha0 4 (by decide))) (by decide) (oa.lt (oa5 ha0 4 (by decide))) p3 p4 ⟨rfl, rfl⟩) ?_
      have hS9 := SH_u2 (b := (a0 + 5)) (x := (B a0 7)) (z := x4) hS8 p3
      refine y_ldk (ok := q_isA) (n := 0) (ck_at dt_Pr_add 43 rfl) rfl rfl (fun _ => rfl) rfl rfl ?_
      refine y_getF (r := a0 + 6) (K := 5) (j := 5) (a := a0) (ck_at dt_Pr_add 44 rfl) own_Pr_add (cf_at 14 rfl) rfl rfl ⟨(SH.o hS9 ha0), ?_⟩
      refine y_ldk (ok := q_isI) (n := 5) (ck_at dt_Pr_add 45 rfl) rfl rfl (fun _ => rfl) rfl rfl ?_
      refine y_ldk (ok := q_isA) (n := 0) (ck_at dt_Pr_add 46 rfl) rfl rfl (fun _ => rfl) rfl rfl ?_
      refine y_getI (K := 5) (j := 8) (a := a0) (ck_at dt_Pr_add 47 rfl) own_Pr_add (cf_at 20 rfl) rfl rfl rfl ⟨(SH.o hS9 ha0), ?_⟩
      refine y_stat3V (k' := n_P_put) (n := 0) (as := [.ref (a0 + 6), iv (B a0 7), iv ((u2 (u2 (u2 (u2 (u2 (u2 B a0 7 ((B a0 7) + 1)) (a0 + 1) (B a0 7) x1) (a0 + 2) (B a0 7) x2) (a0 + 3) (B a0 7) x3) (a0 + 4) (B a0 7) 0) (a0 + 5) (B a0 7) x4) a0 8)]) (r := []) (ck_at dt_Pr_add 48 rfl) own_Pr_add (cm_at 33 rfl) (cs_at 10 rfl) vk_P_put rfl nl_P_put rfl rfl rfl rfl  (Y_P_put (by omega) hS9 (SH.a hS9 (oa5 ha0 5 (by decide))) (by decide) (oa.lt (oa5 ha0 5 (by decide))) p3 p4 ⟨rfl, rfl⟩) ?_
      have hS10 := SH_u2 (b := (a0 + 6)) (x := (B a0 7)) (z := ((u2 (u2 (u2 (u2 (u2 (u2 B a0 7 ((B a0 7) + 1)) (a0 + 1) (B a0 7) x1) (a0 + 2) (B a0 7) x2) (a0 + 3) (B a0 7) x3) (a0 + 4) (B a0 7) 0) (a0 + 5) (B a0 7) x4) a0 8)) hS9 p3
      refine y_ldk (ok := q_isI) (n := 1) (ck_at dt_Pr_add 49 rfl) rfl rfl (fun _ => rfl) rfl rfl ?_
      refine y_op (ck_at dt_Pr_add 50 rfl) rfl (o_bipush _ (by decide)) ?_
      refine y_icmp (t := 123) (ck_at dt_Pr_add 51 rfl) rfl p11 ⟨by decide, by decide⟩ ?_ ?_
      · intro q; have w := w.1 q
        exact y_wk (c_Pr_add_123_ok (by omega) hS10 ha0 w) ⟨rfl, ⟨rfl, trivial⟩⟩
      · intro q; have w := w.2 q
        refine y_ldk (ok := q_isI) (n := 1) (ck_at dt_Pr_add 52 rfl) rfl rfl (fun _ => rfl) rfl rfl ?_
        refine y_op (ck_at dt_Pr_add 53 rfl) rfl (o_bipush _ (by decide)) ?_
        refine y_icmp (t := 123) (ck_at dt_Pr_add 54 rfl) rfl p11 ⟨by decide, by decide⟩ ?_ ?_
        · intro q; have w := w.1 q
          exact y_wk (c_Pr_add_123_ok (by omega) hS10 ha0 w) ⟨rfl, ⟨rfl, trivial⟩⟩
        · intro q; have w := w.2 q
          refine y_ldk (ok := q_isI) (n := 1) (ck_at dt_Pr_add 55 rfl) rfl rfl (fun _ => rfl) rfl rfl ?_
          refine y_op (ck_at dt_Pr_add 56 rfl) rfl (o_bipush _ (by decide)) ?_
          refine y_icmp (t := 123) (ck_at dt_Pr_add 57 rfl) rfl p11 ⟨by decide, by decide⟩ ?_ ?_
          · intro q; have w := w.1 q
            exact y_wk (c_Pr_add_123_ok (by omega) hS10 ha0 w) ⟨rfl, ⟨rfl, trivial⟩⟩
          · intro q; have w := w.2 q
            refine y_ldk (ok := q_isI) (n := 1) (ck_at dt_Pr_add 58 rfl) rfl rfl (fun _ => rfl) rfl rfl ?_
            refine y_op (ck_at dt_Pr_add 59 rfl) rfl (o_bipush _ (by decide)) ?_
            refine y_icmp (t := 133) (ck_at dt_Pr_add 60 rfl) rfl p11 ⟨by decide, by decide⟩ ?_ ?_
            · intro q; have w := w.1 q
              refine y_ldk (ok := q_isI) (n := 5) (ck_at dt_Pr_add 67 rfl) rfl rfl (fun _ => rfl) rfl rfl ?_
              exact y_retI (ck_at dt_Pr_add 68 rfl) rt_Pr_add w
            · intro q; have w := w.2 q
              exact y_wk (c_Pr_add_123_ok (by omega) hS10 ha0 w) ⟨rfl, ⟨rfl, trivial⟩⟩
    · intro q; have w := w.2 q
      refine y_op (ck_at dt_Pr_add 7 rfl) rfl (o_const _) ?_
      exact y_retI (ck_at dt_Pr_add 8 rfl) rt_Pr_add w
/-! PatternTrier$Program.branch(III)V -/
def t_Pr_branch : List (Nat × Instr × Nat) := [(0, .aload_n 0, 1), (1, .getfield 18, 3), (4, .iload_n 1, 1), (5, .iload_n 2, 1), (6, .invokestatic 57, 3), (9, .aload_n 0, 1), (10, .getfield 21, 3), (13, .iload_n 1, 1), (14, .iload_n 3, 1), (15, .invokestatic 57, 3), (18, .return_, 1)]
set_option maxRecDepth 100000 in
theorem dt_Pr_branch : q_ck n_Pr_branch t_Pr_branch = true := by decide +kernel
def c_Pr_branch_0 (h1 : qH) (d : Nat) (a0 : Nat) (x1 : Int) (x2 : Int) (x3 : Int) (B : qB) (Q : qO → qB → Prop) : Prop := 0 ≤ x1 ∧ x1 < 608 ∧ Q (.inl none) (u2 (u2 B (a0 + 3) x1 x2) (a0 + 4) x1 x3)
theorem c_Pr_branch_0_ok {h1 : qH} {d : Nat} {a0 : Nat} {x1 : Int} {x2 : Int} {x3 : Int} {B : qB} {Q : qO → qB → Prop} (hd : 1 ≤ d) (hS : SH B) (ha0 : ob 5 a0) (w : c_Pr_branch_0 h1 d a0 x1 x2 x3 B Q) : qY h1 (d + 1) n_Pr_branch 0 [some (.ref a0), some (iv x1), some (iv x2), some (iv x3)] [] B Q := by
  unfold c_Pr_branch_0 at w
  obtain ⟨p1, p2, w⟩ := w
  refine y_ldk (ok := q_isA) (n := 0) (ck_at dt_Pr_branch 0 rfl) rfl rfl (fun _ => rfl) rfl rfl ?_
  refine y_getF (r := a0 + 3) (K := 5) (j := 2) (a := a0) (ck_at dt_Pr_branch 1 rfl) own_Pr_branch (cf_at 11 rfl) rfl rfl ⟨(SH.o hS ha0), ?_⟩
  refine y_ldk (ok := q_isI) (n := 1) (ck_at dt_Pr_branch 2 rfl) rfl rfl (fun _ => rfl) rfl rfl ?_
  refine y_ldk (ok := q_isI) (n := 2) (ck_at dt_Pr_branch 3 rfl) rfl rfl (fun _ => rfl) rfl rfl ?_
  refine y_stat3V (k' := n_P_put) (n := 0) (as := [.ref (a0 + 3), iv x1, iv x2]) (r := []) (ck_at dt_Pr_branch 4 rfl) own_Pr_branch (cm_at 33 rfl) (cs_at 10 rfl) vk_P_put rfl nl_P_put rfl rfl rfl rfl  (Y_P_put (by omega) hS (SH.a hS (oa5 ha0 2 (by decide))) (by decide) (oa.lt (oa5 ha0 2 (by decide))) p1 p2 ⟨rfl, rfl⟩) ?_
  have hS3 := SH_u2 (b := (a0 + 3)) (x := x1) (z := x2) hS p1
  refine y_ldk (ok := q_isA) (n := 0) (ck_at dt_Pr_branch 5 rfl) rfl rfl (fun _ => rfl) rfl rfl ?_
  refine y_getF (r := a0 + 4) (K := 5) (j := 3) (a := a0) (ck_at dt_Pr_branch 6 rfl) own_Pr_branch (cf_at 12 rfl) rfl rfl ⟨(SH.o hS3 ha0), ?_⟩
  refine y_ldk (ok := q_isI) (n := 1) (ck_at dt_Pr_branch 7 rfl) rfl rfl (fun _ => rfl) rfl rfl ?_
  refine y_ldk (ok := q_isI) (n := 3) (ck_at dt_Pr_branch 8 rfl) rfl rfl (fun _ => rfl) rfl rfl ?_
  refine y_stat3V (k' := n_P_put) (n := 0) (as := [.ref (a0 + 4), iv x1, iv x3]) (r := []) (ck_at dt_Pr_branch 9 rfl) own_Pr_branch (cm_at 33 rfl) (cs_at 10 rfl) vk_P_put rfl nl_P_put rfl rfl rfl rfl  (Y_P_put (by omega) hS3 (SH.a hS3 (oa5 ha0 3 (by decide))) (by decide) (oa.lt (oa5 ha0 3 (by decide))) p1 p2 ⟨rfl, rfl⟩) ?_
  have hS4 := SH_u2 (b := (a0 + 4)) (x := x1) (z := x3) hS3 p1
  exact y_ret0 (ck_at dt_Pr_branch 10 rfl) rt_Pr_branch w
/-! PatternTrier$Found.add(II)V -/
def t_Fo_add : List (Nat × Instr × Nat) := [(0, .aload_n 0, 1), (1, .getfield 9, 3), (4, .iconst 2, 1), (5, .aload_n 0, 1), (6, .getfield 15, 3), (9, .imul, 1), (10, .iload_n 1, 1), (11, .invokestatic 19, 3), (14, .aload_n 0, 1), (15, .getfield 9, 3), (18, .iconst 2, 1), (19, .aload_n 0, 1), (20, .getfield 15, 3), (23, .imul, 1), (24, .iconst 1, 1), (25, .iadd, 1), (26, .iload_n 2, 1), (27, .invokestatic 19, 3), (30, .aload_n 0, 1), (31, .dup, 1), (32, .getfield 15, 3), (35, .iconst 1, 1), (36, .iadd, 1), (37, .putfield 15, 3), (40, .return_, 1)]
set_option maxRecDepth 100000 in
theorem dt_Fo_add : q_ck n_Fo_add t_Fo_add = true := by decide +kernel
def c_Fo_add_0 (h1 : qH) (d : Nat) (a0 : Nat) (x1 : Int) (x2 : Int) (B : qB) (Q : qO → qB → Prop) : Prop := 0 ≤ (2 * (B a0 1)) ∧ (2 * (B a0 1)) < 602 ∧ 0 ≤ ((2 * ((u2 B (a0 + 1) (2 * (B a0 1)) x1) a0 1)) + 1) ∧ ((2 * ((u2 B (a0 + 1) (2 * (B a0 1)) x1) a0 1)) + 1) < 602 ∧ Q (.inl none) (u2 (u2 (u2 B (a0 + 1) (2 * (B a0 1)) x1) (a0 + 1) ((2 * ((u2 B (a0 + 1) (2 * (B a0 1)) x1) a0 1)) + 1) x2) a0 1 (((u2 (u2 B (a0 + 1) (2 * (B a0 1)) x1) (a0 + 1) ((2 * ((u2 B (a0 + 1) (2 * (B a0 1)) x1) a0 1)) + 1) x2) a0 1) + 1))
theorem c_Fo_add_0_ok {h1 : qH} {d : Nat} {a0 : Nat} {x1 : Int} {x2 : Int} {B : qB} {Q : qO → qB → Prop} (hd : 1 ≤ d) (hS : SH B) (ha0 : ob 3 a0) (w : c_Fo_add_0 h1 d a0 x1 x2 B Q) : qY h1 (d + 1) n_Fo_add 0 [some (.ref a0), some (iv x1), some (iv x2)] [] B Q := by
  unfold c_Fo_add_0 at w
  obtain ⟨p1, p2, p4, p5, w⟩ := w
  refine y_ldk (ok := q_isA) (n := 0) (ck_at dt_Fo_add 0 rfl) rfl rfl (fun _ => rfl) rfl rfl ?_
  refine y_getF (r := a0 + 1) (K := 3) (j := 0) (a := a0) (ck_at dt_Fo_add 1 rfl) own_Fo_add (cf_at 5 rfl) rfl rfl ⟨(SH.o hS ha0), ?_⟩
  refine y_op (ck_at dt_Fo_add 2 rfl) rfl (o_const _) ?_
  refine y_ldk (ok := q_isA) (n := 0) (ck_at dt_Fo_add 3 rfl) rfl rfl (fun _ => rfl) rfl rfl ?_
  refine y_getI (K := 3) (j := 1) (a := a0) (ck_at dt_Fo_add 4 rfl) own_Fo_add (cf_at 6 rfl) rfl rfl rfl ⟨(SH.o hS ha0), ?_⟩
  refine y_op (ck_at dt_Fo_add 5 rfl) rfl o_imul ?_
  refine y_ldk (ok := q_isI) (n := 1) (ck_at dt_Fo_add 6 rfl) rfl rfl (fun _ => rfl) rfl rfl ?_
  refine y_stat3V (k' := n_P_put) (n := 0) (as := [.ref (a0 + 1), iv (2 * (B a0 1)), iv x1]) (r := []) (ck_at dt_Fo_add 7 rfl) own_Fo_add (cm_at 25 rfl) (cs_at 3 rfl) vk_P_put rfl nl_P_put rfl rfl rfl rfl  (Y_P_put (by omega) hS (SH.a hS (oa3 ha0)) (by decide) (oa.lt (oa3 ha0)) p1 p2 ⟨rfl, rfl⟩) ?_
  have hS3 := SH_u2 (b := (a0 + 1)) (x := (2 * (B a0 1))) (z := x1) hS p1
  refine y_ldk (ok := q_isA) (n := 0) (ck_at dt_Fo_add 8 rfl) rfl rfl (fun _ => rfl) rfl rfl ?_
  refine y_getF (r := a0 + 1) (K := 3) (j := 0) (a := a0) (ck_at dt_Fo_add 9 rfl) own_Fo_add (cf_at 5 rfl) rfl rfl ⟨(SH.o hS3 ha0), ?_⟩
  refine y_op (ck_at dt_Fo_add 10 rfl) rfl (o_const _) ?_
  refine y_ldk (ok := q_isA) (n := 0) (ck_at dt_Fo_add 11 rfl) rfl rfl (fun _ => rfl) rfl rfl ?_
  refine y_getI (K := 3) (j := 1) (a := a0) (ck_at dt_Fo_add 12 rfl) own_Fo_add (cf_at 6 rfl) rfl rfl rfl ⟨(SH.o hS3 ha0), ?_⟩
  refine y_op (ck_at dt_Fo_add 13 rfl) rfl o_imul ?_
  refine y_op (ck_at dt_Fo_add 14 rfl) rfl (o_const _) ?_
  refine y_op (ck_at dt_Fo_add 15 rfl) rfl o_iadd ?_
  refine y_ldk (ok := q_isI) (n := 2) (ck_at dt_Fo_add 16 rfl) rfl rfl (fun _ => rfl) rfl rfl ?_
  refine y_stat3V (k' := n_P_put) (n := 0) (as := [.ref (a0 + 1), iv ((2 * ((u2 B (a0 + 1) (2 * (B a0 1)) x1) a0 1)) + 1), iv x2]) (r := []) (ck_at dt_Fo_add 17 rfl) own_Fo_add (cm_at 25 rfl) (cs_at 3 rfl) vk_P_put rfl nl_P_put rfl rfl rfl rfl  (Y_P_put (by omega) hS3 (SH.a hS3 (oa3 ha0)) (by decide) (oa.lt (oa3 ha0)) p4 p5 ⟨rfl, rfl⟩) ?_
  have hS6 := SH_u2 (b := (a0 + 1)) (x := ((2 * ((u2 B (a0 + 1) (2 * (B a0 1)) x1) a0 1)) + 1)) (z := x2) hS3 p4
  refine y_ldk (ok := q_isA) (n := 0) (ck_at dt_Fo_add 18 rfl) rfl rfl (fun _ => rfl) rfl rfl ?_
  refine y_op (ck_at dt_Fo_add 19 rfl) rfl rfl ?_
  refine y_getI (K := 3) (j := 1) (a := a0) (ck_at dt_Fo_add 20 rfl) own_Fo_add (cf_at 6 rfl) rfl rfl rfl ⟨(SH.o hS6 ha0), ?_⟩
  refine y_op (ck_at dt_Fo_add 21 rfl) rfl (o_const _) ?_
  refine y_op (ck_at dt_Fo_add 22 rfl) rfl o_iadd ?_
  refine y_putI (K := 3) (j := 1) (a := a0) (ck_at dt_Fo_add 23 rfl) own_Fo_add (cf_at 6 rfl) rfl rfl rfl rfl rfl ⟨⟨SH.o hS6 ha0, ob.lt ha0⟩, ?_⟩
  have hS7 := SH_u2 (b := a0) (x := 1) (z := ((u2 (u2 B (a0 + 1) (2 * (B a0 1)) x1) (a0 + 1) ((2 * ((u2 B (a0 + 1) (2 * (B a0 1)) x1) a0 1)) + 1) x2) a0 1) + 1) hS6 (by decide)
  exact y_ret0 (ck_at dt_Fo_add 24 rfl) rt_Fo_add w
/-! PatternTrier$Found.bound(II)I -/
def t_Fo_bound : List (Nat × Instr × Nat) := [(0, .aload_n 0, 1), (1, .getfield 9, 3), (4, .iconst 2, 1), (5, .iload_n 1, 1), (6, .imul, 1), (7, .iload_n 2, 1), (8, .iadd, 1), (9, .invokestatic 23, 3), (12, .ireturn, 1)]
set_option maxRecDepth 100000 in
theorem dt_Fo_bound : q_ck n_Fo_bound t_Fo_bound = true := by decide +kernel
def c_Fo_bound_0 (h1 : qH) (d : Nat) (a0 : Nat) (x1 : Int) (x2 : Int) (B : qB) (Q : qO → qB → Prop) : Prop := 0 ≤ ((2 * x1) + x2) ∧ ((2 * x1) + x2) < 602 ∧ Q (.inl (some (iv (B (a0 + 1) ((2 * x1) + x2))))) B
theorem c_Fo_bound_0_ok {h1 : qH} {d : Nat} {a0 : Nat} {x1 : Int} {x2 : Int} {B : qB} {Q : qO → qB → Prop} (hd : 1 ≤ d) (hS : SH B) (ha0 : ob 3 a0) (w : c_Fo_bound_0 h1 d a0 x1 x2 B Q) : qY h1 (d + 1) n_Fo_bound 0 [some (.ref a0), some (iv x1), some (iv x2)] [] B Q := by
  unfold c_Fo_bound_0 at w
  obtain ⟨p1, p2, w⟩ := w
  refine y_ldk (ok := q_isA) (n := 0) (ck_at dt_Fo_bound 0 rfl) rfl rfl (fun _ => rfl) rfl rfl ?_
  refine y_getF (r := a0 + 1) (K := 3) (j := 0) (a := a0) (ck_at dt_Fo_bound 1 rfl) own_Fo_bound (cf_at 5 rfl) rfl rfl ⟨(SH.o hS ha0), ?_⟩
  refine y_op (ck_at dt_Fo_bound 2 rfl) rfl (o_const _) ?_
  refine y_ldk (ok := q_isI) (n := 1) (ck_at dt_Fo_bound 3 rfl) rfl rfl (fun _ => rfl) rfl rfl ?_
  refine y_op (ck_at dt_Fo_bound 4 rfl) rfl o_imul ?_
  refine y_ldk (ok := q_isI) (n := 2) (ck_at dt_Fo_bound 5 rfl) rfl rfl (fun _ => rfl) rfl rfl ?_
  refine y_op (ck_at dt_Fo_bound 6 rfl) rfl o_iadd ?_
  refine y_stat3P (k' := n_P_cell) (n := 0) (as := [.ref (a0 + 1), iv ((2 * x1) + x2)]) (r := []) (ck_at dt_Fo_bound 7 rfl) own_Fo_bound (cm_at 26 rfl) (cs_at 4 rfl) vk_P_cell rfl nl_P_cell rfl rfl rfl rfl  (Y_P_cell (by omega) hS (SH.a hS (oa3 ha0)) (by decide) p1 p2 ⟨rfl, rfl⟩) ?_
  exact y_retI (ck_at dt_Fo_bound 8 rfl) rt_Fo_bound w
/-! PatternTrier$Walker.isWord(I)Z -/
def t_Wa_isWord : List (Nat × Instr × Nat) := [(0, .iload_n 0, 1), (1, .invokestatic 167, 3), (4, .ifCond .ne 16, 3), (7, .iload_n 0, 1), (8, .invokestatic 170, 3), (11, .ifCond .ne 9, 3), (14, .iload_n 0, 1), (15, .bipush 95, 2), (17, .if_icmp .ne 7, 3), (20, .iconst 1, 1), (21, .goto 4, 3), (24, .iconst 0, 1), (25, .ireturn, 1)]
set_option maxRecDepth 100000 in
theorem dt_Wa_isWord : q_ck n_Wa_isWord t_Wa_isWord = true := by decide +kernel
def c_Wa_isWord_0 (h1 : qH) (d : Nat) (x0 : Int) (B : qB) (Q : qO → qB → Prop) : Prop := R32 x0 ∧ (¬ bi (isLt x0) = 0 → Q (.inl (some (iv 1))) B) ∧ (bi (isLt x0) = 0 → (¬ bi (isDg x0) = 0 → Q (.inl (some (iv 1))) B) ∧ (bi (isDg x0) = 0 → (¬ x0 = 95 → Q (.inl (some (iv 0))) B) ∧ (x0 = 95 → Q (.inl (some (iv 1))) B)))
theorem c_Wa_isWord_0_ok {h1 : qH} {d : Nat} {x0 : Int} {B : qB} {Q : qO → qB → Prop} (hd : 1 ≤ d) (hS : SH B) (w : c_Wa_isWord_0 h1 d x0 B Q) : qY h1 (d + 1) n_Wa_isWord 0 [some (iv x0)] [] B Q := by
  unfold c_Wa_isWord_0 at w
  obtain ⟨p1, w⟩ := w
  refine y_ldk (ok := q_isI) (n := 0) (ck_at dt_Wa_isWord 0 rfl) rfl rfl (fun _ => rfl) rfl rfl ?_
  refine y_stat3P (k' := n_P_isLetter) (n := 0) (as := [iv x0]) (r := []) (ck_at dt_Wa_isWord 1 rfl) own_Wa_isWord (cm_at 115 rfl) (cs_at 24 rfl) vk_P_isLetter rfl nl_P_isLetter rfl rfl rfl rfl  (Y_P_isLetter (by omega) hS p1 ⟨rfl, rfl⟩) ?_
  refine y_ifz (t := 20) (ck_at dt_Wa_isWord 2 rfl) rfl (R32_bi _) ?_ ?_
  · intro q; have w := w.1 q
    refine y_op (ck_at dt_Wa_isWord 9 rfl) rfl (o_const _) ?_
    refine y_goto (t := 25) (ck_at dt_Wa_isWord 10 rfl) rfl ?_
    exact y_retZ (ck_at dt_Wa_isWord 12 rfl) rt_Wa_isWord (by decide) w
  · intro q; have w := w.2 q
    refine y_ldk (ok := q_isI) (n := 0) (ck_at dt_Wa_isWord 3 rfl) rfl rfl (fun _ => rfl) rfl rfl ?_
    refine y_stat3P (k' := n_P_isDigit_IZ) (n := 0) (as := [iv x0]) (r := []) (ck_at dt_Wa_isWord 4 rfl) own_Wa_isWord (cm_at 116 rfl) (cs_at 25 rfl) vk_P_isDigit_IZ rfl nl_P_isDigit_IZ rfl rfl rfl rfl  (Y_P_isDigit_IZ (by omega) hS p1 ⟨rfl, rfl⟩) ?_
    refine y_ifz (t := 20) (ck_at dt_Wa_isWord 5 rfl) rfl (R32_bi _) ?_ ?_
    · intro q; have w := w.1 q
      refine y_op (ck_at dt_Wa_isWord 9 rfl) rfl (o_const _) ?_
      refine y_goto (t := 25) (ck_at dt_Wa_isWord 10 rfl) rfl ?_
      exact y_retZ (ck_at dt_Wa_isWord 12 rfl) rt_Wa_isWord (by decide) w
    · intro q; have w := w.2 q
      refine y_ldk (ok := q_isI) (n := 0) (ck_at dt_Wa_isWord 6 rfl) rfl rfl (fun _ => rfl) rfl rfl ?_
      refine y_op (ck_at dt_Wa_isWord 7 rfl) rfl (o_bipush _ (by decide)) ?_
      refine y_icmp (t := 24) (ck_at dt_Wa_isWord 8 rfl) rfl p1 ⟨by decide, by decide⟩ ?_ ?_
      · intro q; have w := w.1 q
        refine y_op (ck_at dt_Wa_isWord 11 rfl) rfl (o_const _) ?_
        exact y_retZ (ck_at dt_Wa_isWord 12 rfl) rt_Wa_isWord (by decide) w
      · intro q; have w := w.2 q
        refine y_op (ck_at dt_Wa_isWord 9 rfl) rfl (o_const _) ?_
        refine y_goto (t := 25) (ck_at dt_Wa_isWord 10 rfl) rfl ?_
        exact y_retZ (ck_at dt_Wa_isWord 12 rfl) rt_Wa_isWord (by decide) w
/-! PatternTrier$Walker.placeBehind()I -/
def t_Wa_placeBehind : List (Nat × Instr × Nat) := [(0, .aload_n 0, 1), (1, .iconst 1, 1), (2, .invokevirtual 87, 3), (5, .aload_n 0, 1), (6, .iconst 0, 1), (7, .invokevirtual 87, 3), (10, .if_icmp .le 11, 3), (13, .aload_n 0, 1), (14, .iconst 1, 1), (15, .invokevirtual 87, 3), (18, .goto 10, 3), (21, .aload_n 0, 1), (22, .iconst 1, 1), (23, .invokevirtual 87, 3), (26, .iconst 1, 1), (27, .iadd, 1), (28, .ireturn, 1)]
set_option maxRecDepth 100000 in
theorem dt_Wa_placeBehind : q_ck n_Wa_placeBehind t_Wa_placeBehind = true := by decide +kernel
def c_Wa_placeBehind_0 (h1 : qH) (d : Nat) (B : qB) (Q : qO → qB → Prop) : Prop := R32 (B 107 1) ∧ R32 (B 107 0) ∧ (B 107 1 ≤ B 107 0 → Q (.inl (some (iv ((B 107 1) + 1)))) B) ∧ (B 107 1 > B 107 0 → Q (.inl (some (iv (B 107 1)))) B)
theorem c_Wa_placeBehind_0_ok {h1 : qH} {d : Nat} {B : qB} {Q : qO → qB → Prop} (hd : 1 ≤ d) (hS : SH B) (w : c_Wa_placeBehind_0 h1 d B Q) : qY h1 (d + 1) n_Wa_placeBehind 0 [some (.ref 102)] [] B Q := by
  unfold c_Wa_placeBehind_0 at w
  obtain ⟨p1, p2, w⟩ := w
  refine y_ldk (ok := q_isA) (n := 0) (ck_at dt_Wa_placeBehind 0 rfl) rfl rfl (fun _ => rfl) rfl rfl ?_
  refine y_op (ck_at dt_Wa_placeBehind 1 rfl) rfl (o_const _) ?_
  refine y_virtP (k' := n_Wa_mark) (n := 0) (as := [iv 1]) (r := []) (ck_at dt_Wa_placeBehind 2 rfl) own_Wa_placeBehind (cm_at 93 rfl) vk_Wa_mark rfl nl_Wa_mark rfl rfl rfl rfl (SH.o hS ⟨by decide, by decide, by decide⟩) (Y_Wa_mark (by omega) hS (by decide) (by decide) ⟨rfl, rfl⟩) ?_
  refine y_ldk (ok := q_isA) (n := 0) (ck_at dt_Wa_placeBehind 3 rfl) rfl rfl (fun _ => rfl) rfl rfl ?_
  refine y_op (ck_at dt_Wa_placeBehind 4 rfl) rfl (o_const _) ?_
  refine y_virtP (k' := n_Wa_mark) (n := 0) (as := [iv 0]) (r := [iv (B 107 1)]) (ck_at dt_Wa_placeBehind 5 rfl) own_Wa_placeBehind (cm_at 93 rfl) vk_Wa_mark rfl nl_Wa_mark rfl rfl rfl rfl (SH.o hS ⟨by decide, by decide, by decide⟩) (Y_Wa_mark (by omega) hS (by decide) (by decide) ⟨rfl, rfl⟩) ?_
  refine y_icmp (t := 21) (ck_at dt_Wa_placeBehind 6 rfl) rfl p1 p2 ?_ ?_
  · intro q; have w := w.1 q
    refine y_ldk (ok := q_isA) (n := 0) (ck_at dt_Wa_placeBehind 11 rfl) rfl rfl (fun _ => rfl) rfl rfl ?_
    refine y_op (ck_at dt_Wa_placeBehind 12 rfl) rfl (o_const _) ?_
    refine y_virtP (k' := n_Wa_mark) (n := 0) (as := [iv 1]) (r := []) (ck_at dt_Wa_placeBehind 13 rfl) own_Wa_placeBehind (cm_at 93 rfl) vk_Wa_mark rfl nl_Wa_mark rfl rfl rfl rfl (SH.o hS ⟨by decide, by decide, by decide⟩) (Y_Wa_mark (by omega) hS (by decide) (by decide) ⟨rfl, rfl⟩) ?_
    refine y_op (ck_at dt_Wa_placeBehind 14 rfl) rfl (o_const _) ?_
    refine y_op (ck_at dt_Wa_placeBehind 15 rfl) rfl o_iadd ?_
    exact y_retI (ck_at dt_Wa_placeBehind 16 rfl) rt_Wa_placeBehind w
  · intro q; have w := w.2 q
    refine y_ldk (ok := q_isA) (n := 0) (ck_at dt_Wa_placeBehind 7 rfl) rfl rfl (fun _ => rfl) rfl rfl ?_
    refine y_op (ck_at dt_Wa_placeBehind 8 rfl) rfl (o_const _) ?_
    refine y_virtP (k' := n_Wa_mark) (n := 0) (as := [iv 1]) (r := []) (ck_at dt_Wa_placeBehind 9 rfl) own_Wa_placeBehind (cm_at 93 rfl) vk_Wa_mark rfl nl_Wa_mark rfl rfl rfl rfl (SH.o hS ⟨by decide, by decide, by decide⟩) (Y_Wa_mark (by omega) hS (by decide) (by decide) ⟨rfl, rfl⟩) ?_
    refine y_goto (t := 28) (ck_at dt_Wa_placeBehind 10 rfl) rfl ?_
    exact y_retI (ck_at dt_Wa_placeBehind 16 rfl) rt_Wa_placeBehind w
/-! PatternTrier$Walker.pass()Z -/
def t_Wa_pass : List (Nat × Instr × Nat) := [(0, .aload_n 0, 1), (1, .aload_n 0, 1), (2, .getfield 29, 3), (5, .aload_n 0, 1), (6, .getfield 92, 3), (9, .invokevirtual 145, 3), (12, .putfield 92, 3), (15, .iconst 1, 1), (16, .ireturn, 1)]
set_option maxRecDepth 100000 in
theorem dt_Wa_pass : q_ck n_Wa_pass t_Wa_pass = true := by decide +kernel
def c_Wa_pass_0 (h1 : qH) (d : Nat) (B : qB) (Q : qO → qB → Prop) : Prop := ob 5 ((B 102 3).toNat) ∧ 0 ≤ (B 102 6) ∧ (B 102 6) < 608 ∧ Q (.inl (some (iv 1))) (u2 B 102 6 (B (((B 102 3).toNat) + 3) (B 102 6)))
theorem c_Wa_pass_0_ok {h1 : qH} {d : Nat} {B : qB} {Q : qO → qB → Prop} (hd : 1 ≤ d) (hS : SH B) (w : c_Wa_pass_0 h1 d B Q) : qY h1 (d + 1) n_Wa_pass 0 [some (.ref 102)] [] B Q := by
  unfold c_Wa_pass_0 at w
  obtain ⟨p1, p2, p3, w⟩ := w
  refine y_ldk (ok := q_isA) (n := 0) (ck_at dt_Wa_pass 0 rfl) rfl rfl (fun _ => rfl) rfl rfl ?_
  refine y_ldk (ok := q_isA) (n := 0) (ck_at dt_Wa_pass 1 rfl) rfl rfl (fun _ => rfl) rfl rfl ?_
  refine y_getD (K := 9) (j := 3) (a := 102) (ck_at dt_Wa_pass 2 rfl) own_Wa_pass (cf_at 44 rfl) rfl rfl rfl ⟨(SH.o hS ⟨by decide, by decide, by decide⟩), ?_⟩
  refine y_ldk (ok := q_isA) (n := 0) (ck_at dt_Wa_pass 3 rfl) rfl rfl (fun _ => rfl) rfl rfl ?_
  refine y_getI (K := 9) (j := 6) (a := 102) (ck_at dt_Wa_pass 4 rfl) own_Wa_pass (cf_at 47 rfl) rfl rfl rfl ⟨(SH.o hS ⟨by decide, by decide, by decide⟩), ?_⟩
  refine y_virtP (k' := n_Pr_nextOf) (n := 0) (as := [iv (B 102 6)]) (r := [.ref 102]) (ck_at dt_Wa_pass 5 rfl) own_Wa_pass (cm_at 108 rfl) vk_Pr_nextOf rfl nl_Pr_nextOf rfl rfl rfl rfl (SH.o hS p1) (Y_Pr_nextOf (by omega) hS p1 p2 p3 ⟨rfl, rfl⟩) ?_
  refine y_putI (K := 9) (j := 6) (a := 102) (ck_at dt_Wa_pass 6 rfl) own_Wa_pass (cf_at 47 rfl) rfl rfl rfl rfl rfl ⟨⟨SH.o hS ⟨by decide, by decide, by decide⟩, by decide⟩, ?_⟩
  have hS4 := SH_u2 (b := 102) (x := 6) (z := B (((B 102 3).toNat) + 3) (B 102 6)) hS (by decide)
  refine y_op (ck_at dt_Wa_pass 7 rfl) rfl (o_const _) ?_
  exact y_retZ (ck_at dt_Wa_pass 8 rfl) rt_Wa_pass (by decide) w
/-! PatternTrier$Walker.key(II)I -/
def t_Wa_key : List (Nat × Instr × Nat) := [(0, .aload_n 0, 1), (1, .getfield 29, 3), (4, .iload_n 1, 1), (5, .invokevirtual 173, 3), (8, .aload_n 0, 1), (9, .getfield 33, 3), (12, .invokevirtual 47, 3), (15, .iconst 1, 1), (16, .iadd, 1), (17, .imul, 1), (18, .iload_n 2, 1), (19, .iadd, 1), (20, .ireturn, 1)]
set_option maxRecDepth 100000 in
theorem dt_Wa_key : q_ck n_Wa_key t_Wa_key = true := by decide +kernel
def c_Wa_key_0 (h1 : qH) (d : Nat) (x1 : Int) (x2 : Int) (B : qB) (Q : qO → qB → Prop) : Prop := ob 5 ((B 102 3).toNat) ∧ 0 ≤ x1 ∧ x1 < 608 ∧ ob 1 ((B 102 4).toNat) ∧ Q (.inl (some (iv (((B (((B 102 3).toNat) + 6) x1) * ((B ((B 102 4).toNat) 1) + 1)) + x2)))) B
theorem c_Wa_key_0_ok {h1 : qH} {d : Nat} {x1 : Int} {x2 : Int} {B : qB} {Q : qO → qB → Prop} (hd : 1 ≤ d) (hS : SH B) (w : c_Wa_key_0 h1 d x1 x2 B Q) : qY h1 (d + 1) n_Wa_key 0 [some (.ref 102), some (iv x1), some (iv x2)] [] B Q := by
  unfold c_Wa_key_0 at w
  obtain ⟨p1, p2, p3, p4, w⟩ := w
  refine y_ldk (ok := q_isA) (n := 0) (ck_at dt_Wa_key 0 rfl) rfl rfl (fun _ => rfl) rfl rfl ?_
  refine y_getD (K := 9) (j := 3) (a := 102) (ck_at dt_Wa_key 1 rfl) own_Wa_key (cf_at 44 rfl) rfl rfl rfl ⟨(SH.o hS ⟨by decide, by decide, by decide⟩), ?_⟩
  refine y_ldk (ok := q_isI) (n := 1) (ck_at dt_Wa_key 2 rfl) rfl rfl (fun _ => rfl) rfl rfl ?_
  refine y_virtP (k' := n_Pr_slotOf) (n := 0) (as := [iv x1]) (r := []) (ck_at dt_Wa_key 3 rfl) own_Wa_key (cm_at 117 rfl) vk_Pr_slotOf rfl nl_Pr_slotOf rfl rfl rfl rfl (SH.o hS p1) (Y_Pr_slotOf (by omega) hS p1 p2 p3 ⟨rfl, rfl⟩) ?_
  refine y_ldk (ok := q_isA) (n := 0) (ck_at dt_Wa_key 4 rfl) rfl rfl (fun _ => rfl) rfl rfl ?_
  refine y_getD (K := 9) (j := 4) (a := 102) (ck_at dt_Wa_key 5 rfl) own_Wa_key (cf_at 45 rfl) rfl rfl rfl ⟨(SH.o hS ⟨by decide, by decide, by decide⟩), ?_⟩
  refine y_virtP (k' := n_By_size) (n := 0) (as := []) (r := [iv (B (((B 102 3).toNat) + 6) x1)]) (ck_at dt_Wa_key 6 rfl) own_Wa_key (cm_at 86 rfl) vk_By_size rfl nl_By_size rfl rfl rfl rfl (SH.o hS p4) (Y_By_size (by omega) hS p4 ⟨rfl, rfl⟩) ?_
  refine y_op (ck_at dt_Wa_key 7 rfl) rfl (o_const _) ?_
  refine y_op (ck_at dt_Wa_key 8 rfl) rfl o_iadd ?_
  refine y_op (ck_at dt_Wa_key 9 rfl) rfl o_imul ?_
  refine y_ldk (ok := q_isI) (n := 2) (ck_at dt_Wa_key 10 rfl) rfl rfl (fun _ => rfl) rfl rfl ?_
  refine y_op (ck_at dt_Wa_key 11 rfl) rfl o_iadd ?_
  exact y_retI (ck_at dt_Wa_key 12 rfl) rt_Wa_key w
