/-! PatternTrier.cell([II)I -/
def t_P_cell : List (Nat × Instr × Nat) := [(0, .iload_n 1, 1), (1, .ifCond .lt 15, 3), (4, .iload_n 1, 1), (5, .aload_n 0, 1), (6, .arraylength, 1), (7, .if_icmp .ge 9, 3), (10, .aload_n 0, 1), (11, .iload_n 1, 1), (12, .iaload, 1), (13, .goto 4, 3), (16, .iconst 0, 1), (17, .ireturn, 1)]
set_option maxRecDepth 100000 in
theorem dt_P_cell : q_ck n_P_cell t_P_cell = true := by decide +kernel
def c_P_cell_0 (h1 : qH) (d : Nat) (a0 : Nat) (n0 : Int) (x1 : Int) (B : qB) (Q : qO → qB → Prop) : Prop := R32 x1 ∧ (x1 < 0 → Q (.inl (some (iv 0))) B) ∧ (x1 ≥ 0 → R32 n0 ∧ (x1 ≥ n0 → Q (.inl (some (iv 0))) B) ∧ (x1 < n0 → 0 ≤ x1 ∧ x1 < n0 ∧ Q (.inl (some (iv (B a0 x1)))) B))
theorem c_P_cell_0_ok {h1 : qH} {d : Nat} {a0 : Nat} {n0 : Int} {x1 : Int} {B : qB} {Q : qO → qB → Prop} (hd : 0 ≤ d) (hS : SH B) (hA0 : isA B 1 a0 n0) (hA0n : n0 ≤ 67108864) (w : c_P_cell_0 h1 d a0 n0 x1 B Q) : qY h1 (d + 1) n_P_cell 0 [some (.ref a0), some (iv x1)] [] B Q := by
  unfold c_P_cell_0 at w
  obtain ⟨p1, w⟩ := w
  refine y_ldk (ok := q_isI) (n := 1) (ck_at dt_P_cell 0 rfl) rfl rfl (fun _ => rfl) rfl rfl ?_
  refine y_ifz (t := 16) (ck_at dt_P_cell 1 rfl) rfl p1 ?_ ?_
  · intro q; have w := w.1 q
    refine y_op (ck_at dt_P_cell 10 rfl) rfl (o_const _) ?_
    exact y_retI (ck_at dt_P_cell 11 rfl) rt_P_cell w
  · intro q; have w := w.2 q
    obtain ⟨p2, w⟩ := w
    refine y_ldk (ok := q_isI) (n := 1) (ck_at dt_P_cell 2 rfl) rfl rfl (fun _ => rfl) rfl rfl ?_
    refine y_ldk (ok := q_isA) (n := 0) (ck_at dt_P_cell 3 rfl) rfl rfl (fun _ => rfl) rfl rfl ?_
    refine y_alen (ck_at dt_P_cell 4 rfl) ⟨1, n0, hA0, hA0n, ?_⟩
    refine y_icmp (t := 16) (ck_at dt_P_cell 5 rfl) rfl p1 p2 ?_ ?_
    · intro q; have w := w.1 q
      refine y_op (ck_at dt_P_cell 10 rfl) rfl (o_const _) ?_
      exact y_retI (ck_at dt_P_cell 11 rfl) rt_P_cell w
    · intro q; have w := w.2 q
      obtain ⟨p3, p4, w⟩ := w
      refine y_ldk (ok := q_isA) (n := 0) (ck_at dt_P_cell 6 rfl) rfl rfl (fun _ => rfl) rfl rfl ?_
      refine y_ldk (ok := q_isI) (n := 1) (ck_at dt_P_cell 7 rfl) rfl rfl (fun _ => rfl) rfl rfl ?_
      refine y_iald (ck_at dt_P_cell 8 rfl) ⟨n0, hA0, hA0n, p3, p4, ?_⟩
      refine y_goto (t := 17) (ck_at dt_P_cell 9 rfl) rfl ?_
      exact y_retI (ck_at dt_P_cell 11 rfl) rt_P_cell w
/-! PatternTrier.put([III)V -/
def t_P_put : List (Nat × Instr × Nat) := [(0, .iload_n 1, 1), (1, .ifCond .lt 13, 3), (4, .iload_n 1, 1), (5, .aload_n 0, 1), (6, .arraylength, 1), (7, .if_icmp .ge 7, 3), (10, .aload_n 0, 1), (11, .iload_n 1, 1), (12, .iload_n 2, 1), (13, .iastore, 1), (14, .return_, 1)]
set_option maxRecDepth 100000 in
theorem dt_P_put : q_ck n_P_put t_P_put = true := by decide +kernel
def c_P_put_0 (h1 : qH) (d : Nat) (a0 : Nat) (n0 : Int) (x1 : Int) (x2 : Int) (B : qB) (Q : qO → qB → Prop) : Prop := R32 x1 ∧ (x1 < 0 → Q (.inl none) B) ∧ (x1 ≥ 0 → R32 n0 ∧ (x1 ≥ n0 → Q (.inl none) B) ∧ (x1 < n0 → 0 ≤ x1 ∧ x1 < n0 ∧ Q (.inl none) (u2 B a0 x1 x2)))
theorem c_P_put_0_ok {h1 : qH} {d : Nat} {a0 : Nat} {n0 : Int} {x1 : Int} {x2 : Int} {B : qB} {Q : qO → qB → Prop} (hd : 0 ≤ d) (hS : SH B) (hA0 : isA B 1 a0 n0) (hA0n : n0 ≤ 67108864) (hA0l : a0 < 1000000000) (w : c_P_put_0 h1 d a0 n0 x1 x2 B Q) : qY h1 (d + 1) n_P_put 0 [some (.ref a0), some (iv x1), some (iv x2)] [] B Q := by
  unfold c_P_put_0 at w
  obtain ⟨p1, w⟩ := w
  refine y_ldk (ok := q_isI) (n := 1) (ck_at dt_P_put 0 rfl) rfl rfl (fun _ => rfl) rfl rfl ?_
  refine y_ifz (t := 14) (ck_at dt_P_put 1 rfl) rfl p1 ?_ ?_
  · intro q; have w := w.1 q
    exact y_ret0 (ck_at dt_P_put 10 rfl) rt_P_put w
  · intro q; have w := w.2 q
    obtain ⟨p2, w⟩ := w
    refine y_ldk (ok := q_isI) (n := 1) (ck_at dt_P_put 2 rfl) rfl rfl (fun _ => rfl) rfl rfl ?_
    refine y_ldk (ok := q_isA) (n := 0) (ck_at dt_P_put 3 rfl) rfl rfl (fun _ => rfl) rfl rfl ?_
    refine y_alen (ck_at dt_P_put 4 rfl) ⟨1, n0, hA0, hA0n, ?_⟩
    refine y_icmp (t := 14) (ck_at dt_P_put 5 rfl) rfl p1 p2 ?_ ?_
    · intro q; have w := w.1 q
      exact y_ret0 (ck_at dt_P_put 10 rfl) rt_P_put w
    · intro q; have w := w.2 q
      obtain ⟨p3, p4, w⟩ := w
      refine y_ldk (ok := q_isA) (n := 0) (ck_at dt_P_put 6 rfl) rfl rfl (fun _ => rfl) rfl rfl ?_
      refine y_ldk (ok := q_isI) (n := 1) (ck_at dt_P_put 7 rfl) rfl rfl (fun _ => rfl) rfl rfl ?_
      refine y_ldk (ok := q_isI) (n := 2) (ck_at dt_P_put 8 rfl) rfl rfl (fun _ => rfl) rfl rfl ?_
      refine y_iast (ck_at dt_P_put 9 rfl) ⟨n0, hA0, hA0n, p3, p4, hA0l, ?_⟩
      have hS5 := SH_u2 (b := a0) (x := x1) (z := x2) hS p3
      exact y_ret0 (ck_at dt_P_put 10 rfl) rt_P_put w
/-! PatternTrier.isLetter(I)Z -/
def t_P_isLetter : List (Nat × Instr × Nat) := [(0, .iload_n 0, 1), (1, .bipush 97, 2), (3, .if_icmp .lt 9, 3), (6, .iload_n 0, 1), (7, .bipush 122, 2), (9, .if_icmp .le 15, 3), (12, .iload_n 0, 1), (13, .bipush 65, 2), (15, .if_icmp .lt 13, 3), (18, .iload_n 0, 1), (19, .bipush 90, 2), (21, .if_icmp .gt 7, 3), (24, .iconst 1, 1), (25, .goto 4, 3), (28, .iconst 0, 1), (29, .ireturn, 1)]
set_option maxRecDepth 100000 in
theorem dt_P_isLetter : q_ck n_P_isLetter t_P_isLetter = true := by decide +kernel
def c_P_isLetter_12 (h1 : qH) (d : Nat) (x0 : Int) (B : qB) (Q : qO → qB → Prop) : Prop := R32 x0 ∧ (x0 < 65 → Q (.inl (some (iv 0))) B) ∧ (x0 ≥ 65 → (x0 > 90 → Q (.inl (some (iv 0))) B) ∧ (x0 ≤ 90 → Q (.inl (some (iv 1))) B))
theorem c_P_isLetter_12_ok {h1 : qH} {d : Nat} {x0 : Int} {B : qB} {Q : qO → qB → Prop} (hd : 0 ≤ d) (hS : SH B) (w : c_P_isLetter_12 h1 d x0 B Q) : qY h1 (d + 1) n_P_isLetter 12 [some (iv x0)] [] B Q := by
  unfold c_P_isLetter_12 at w
  obtain ⟨p1, w⟩ := w
  refine y_ldk (ok := q_isI) (n := 0) (ck_at dt_P_isLetter 6 rfl) rfl rfl (fun _ => rfl) rfl rfl ?_
  refine y_op (ck_at dt_P_isLetter 7 rfl) rfl (o_bipush _ (by decide)) ?_
  refine y_icmp (t := 28) (ck_at dt_P_isLetter 8 rfl) rfl p1 ⟨by decide, by decide⟩ ?_ ?_
  · intro q; have w := w.1 q
    refine y_op (ck_at dt_P_isLetter 14 rfl) rfl (o_const _) ?_
    exact y_retZ (ck_at dt_P_isLetter 15 rfl) rt_P_isLetter (by decide) w
  · intro q; have w := w.2 q
    refine y_ldk (ok := q_isI) (n := 0) (ck_at dt_P_isLetter 9 rfl) rfl rfl (fun _ => rfl) rfl rfl ?_
    refine y_op (ck_at dt_P_isLetter 10 rfl) rfl (o_bipush _ (by decide)) ?_
    refine y_icmp (t := 28) (ck_at dt_P_isLetter 11 rfl) rfl p1 ⟨by decide, by decide⟩ ?_ ?_
    · intro q; have w := w.1 q
      refine y_op (ck_at dt_P_isLetter 14 rfl) rfl (o_const _) ?_
      exact y_retZ (ck_at dt_P_isLetter 15 rfl) rt_P_isLetter (by decide) w
    · intro q; have w := w.2 q
      refine y_op (ck_at dt_P_isLetter 12 rfl) rfl (o_const _) ?_
      refine y_goto (t := 29) (ck_at dt_P_isLetter 13 rfl) rfl ?_
      exact y_retZ (ck_at dt_P_isLetter 15 rfl) rt_P_isLetter (by decide) w
def c_P_isLetter_0 (h1 : qH) (d : Nat) (x0 : Int) (B : qB) (Q : qO → qB → Prop) : Prop := R32 x0 ∧ (x0 < 97 → c_P_isLetter_12 h1 d x0 B Q) ∧ (x0 ≥ 97 → (x0 ≤ 122 → Q (.inl (some (iv 1))) B) ∧ (x0 > 122 → c_P_isLetter_12 h1 d x0 B Q))
theorem c_P_isLetter_0_ok {h1 : qH} {d : Nat} {x0 : Int} {B : qB} {Q : qO → qB → Prop} (hd : 0 ≤ d) (hS : SH B) (w : c_P_isLetter_0 h1 d x0 B Q) : qY h1 (d + 1) n_P_isLetter 0 [some (iv x0)] [] B Q := by
  unfold c_P_isLetter_0 at w
  obtain ⟨p1, w⟩ := w
  refine y_ldk (ok := q_isI) (n := 0) (ck_at dt_P_isLetter 0 rfl) rfl rfl (fun _ => rfl) rfl rfl ?_
  refine y_op (ck_at dt_P_isLetter 1 rfl) rfl (o_bipush _ (by decide)) ?_
  refine y_icmp (t := 12) (ck_at dt_P_isLetter 2 rfl) rfl p1 ⟨by decide, by decide⟩ ?_ ?_
  · intro q; have w := w.1 q
    exact y_wk (c_P_isLetter_12_ok (by omega) hS w) ⟨rfl, trivial⟩
  · intro q; have w := w.2 q
    refine y_ldk (ok := q_isI) (n := 0) (ck_at dt_P_isLetter 3 rfl) rfl rfl (fun _ => rfl) rfl rfl ?_
    refine y_op (ck_at dt_P_isLetter 4 rfl) rfl (o_bipush _ (by decide)) ?_
    refine y_icmp (t := 24) (ck_at dt_P_isLetter 5 rfl) rfl p1 ⟨by decide, by decide⟩ ?_ ?_
    · intro q; have w := w.1 q
      refine y_op (ck_at dt_P_isLetter 12 rfl) rfl (o_const _) ?_
      refine y_goto (t := 29) (ck_at dt_P_isLetter 13 rfl) rfl ?_
      exact y_retZ (ck_at dt_P_isLetter 15 rfl) rt_P_isLetter (by decide) w
    · intro q; have w := w.2 q
      exact y_wk (c_P_isLetter_12_ok (by omega) hS w) ⟨rfl, trivial⟩
/-! PatternTrier.isDigit(I)Z -/
def t_P_isDigit_IZ : List (Nat × Instr × Nat) := [(0, .iload_n 0, 1), (1, .bipush 48, 2), (3, .if_icmp .lt 13, 3), (6, .iload_n 0, 1), (7, .bipush 57, 2), (9, .if_icmp .gt 7, 3), (12, .iconst 1, 1), (13, .goto 4, 3), (16, .iconst 0, 1), (17, .ireturn, 1)]
set_option maxRecDepth 100000 in
theorem dt_P_isDigit_IZ : q_ck n_P_isDigit_IZ t_P_isDigit_IZ = true := by decide +kernel
def c_P_isDigit_IZ_0 (h1 : qH) (d : Nat) (x0 : Int) (B : qB) (Q : qO → qB → Prop) : Prop := R32 x0 ∧ (x0 < 48 → Q (.inl (some (iv 0))) B) ∧ (x0 ≥ 48 → (x0 > 57 → Q (.inl (some (iv 0))) B) ∧ (x0 ≤ 57 → Q (.inl (some (iv 1))) B))
theorem c_P_isDigit_IZ_0_ok {h1 : qH} {d : Nat} {x0 : Int} {B : qB} {Q : qO → qB → Prop} (hd : 0 ≤ d) (hS : SH B) (w : c_P_isDigit_IZ_0 h1 d x0 B Q) : qY h1 (d + 1) n_P_isDigit_IZ 0 [some (iv x0)] [] B Q := by
  unfold c_P_isDigit_IZ_0 at w
  obtain ⟨p1, w⟩ := w
  refine y_ldk (ok := q_isI) (n := 0) (ck_at dt_P_isDigit_IZ 0 rfl) rfl rfl (fun _ => rfl) rfl rfl ?_
  refine y_op (ck_at dt_P_isDigit_IZ 1 rfl) rfl (o_bipush _ (by decide)) ?_
  refine y_icmp (t := 16) (ck_at dt_P_isDigit_IZ 2 rfl) rfl p1 ⟨by decide, by decide⟩ ?_ ?_
  · intro q; have w := w.1 q
    refine y_op (ck_at dt_P_isDigit_IZ 8 rfl) rfl (o_const _) ?_
    exact y_retZ (ck_at dt_P_isDigit_IZ 9 rfl) rt_P_isDigit_IZ (by decide) w
  · intro q; have w := w.2 q
    refine y_ldk (ok := q_isI) (n := 0) (ck_at dt_P_isDigit_IZ 3 rfl) rfl rfl (fun _ => rfl) rfl rfl ?_
    refine y_op (ck_at dt_P_isDigit_IZ 4 rfl) rfl (o_bipush _ (by decide)) ?_
    refine y_icmp (t := 16) (ck_at dt_P_isDigit_IZ 5 rfl) rfl p1 ⟨by decide, by decide⟩ ?_ ?_
    · intro q; have w := w.1 q
      refine y_op (ck_at dt_P_isDigit_IZ 8 rfl) rfl (o_const _) ?_
      exact y_retZ (ck_at dt_P_isDigit_IZ 9 rfl) rt_P_isDigit_IZ (by decide) w
    · intro q; have w := w.2 q
      refine y_op (ck_at dt_P_isDigit_IZ 6 rfl) rfl (o_const _) ?_
      refine y_goto (t := 17) (ck_at dt_P_isDigit_IZ 7 rfl) rfl ?_
      exact y_retZ (ck_at dt_P_isDigit_IZ 9 rfl) rt_P_isDigit_IZ (by decide) w
/-! PatternTrier.isDigit(I)Z -/
def t_P_isDigit_IZn : List (Nat × Instr × Nat) := [(0, .iload_n 0, 1), (1, .bipush 48, 2), (3, .if_icmp .lt 13, 3), (6, .iload_n 0, 1), (7, .bipush 57, 2), (9, .if_icmp .gt 7, 3), (12, .iconst 1, 1), (13, .goto 4, 3), (16, .iconst 0, 1), (17, .ireturn, 1)]
set_option maxRecDepth 100000 in
theorem dt_P_isDigit_IZn : q_ck n_P_isDigit_IZn t_P_isDigit_IZn = true := by decide +kernel
def c_P_isDigit_IZn_0 (h1 : qH) (d : Nat) (x0 : Int) (B : qB) (Q : qO → qB → Prop) : Prop := R32 x0 ∧ (x0 < 48 → Q (.inl (some (iv 0))) B) ∧ (x0 ≥ 48 → (x0 > 57 → Q (.inl (some (iv 0))) B) ∧ (x0 ≤ 57 → Q (.inl (some (iv 1))) B))
theorem c_P_isDigit_IZn_0_ok {h1 : qH} {d : Nat} {x0 : Int} {B : qB} {Q : qO → qB → Prop} (hd : 0 ≤ d) (hS : SH B) (w : c_P_isDigit_IZn_0 h1 d x0 B Q) : qY h1 (d + 1) n_P_isDigit_IZn 0 [some (iv x0)] [] B Q := by
  unfold c_P_isDigit_IZn_0 at w
  obtain ⟨p1, w⟩ := w
  refine y_ldk (ok := q_isI) (n := 0) (ck_at dt_P_isDigit_IZn 0 rfl) rfl rfl (fun _ => rfl) rfl rfl ?_
  refine y_op (ck_at dt_P_isDigit_IZn 1 rfl) rfl (o_bipush _ (by decide)) ?_
  refine y_icmp (t := 16) (ck_at dt_P_isDigit_IZn 2 rfl) rfl p1 ⟨by decide, by decide⟩ ?_ ?_
  · intro q; have w := w.1 q
    refine y_op (ck_at dt_P_isDigit_IZn 8 rfl) rfl (o_const _) ?_
    exact y_retZ (ck_at dt_P_isDigit_IZn 9 rfl) rt_P_isDigit_IZn (by decide) w
  · intro q; have w := w.2 q
    refine y_ldk (ok := q_isI) (n := 0) (ck_at dt_P_isDigit_IZn 3 rfl) rfl rfl (fun _ => rfl) rfl rfl ?_
    refine y_op (ck_at dt_P_isDigit_IZn 4 rfl) rfl (o_bipush _ (by decide)) ?_
    refine y_icmp (t := 16) (ck_at dt_P_isDigit_IZn 5 rfl) rfl p1 ⟨by decide, by decide⟩ ?_ ?_
    · intro q; have w := w.1 q
      refine y_op (ck_at dt_P_isDigit_IZn 8 rfl) rfl (o_const _) ?_
      exact y_retZ (ck_at dt_P_isDigit_IZn 9 rfl) rt_P_isDigit_IZn (by decide) w
    · intro q; have w := w.2 q
      refine y_op (ck_at dt_P_isDigit_IZn 6 rfl) rfl (o_const _) ?_
      refine y_goto (t := 17) (ck_at dt_P_isDigit_IZn 7 rfl) rfl ?_
      exact y_retZ (ck_at dt_P_isDigit_IZn 9 rfl) rt_P_isDigit_IZn (by decide) w
/-! PatternTrier$Bytes.size()I -/
def t_By_size : List (Nat × Instr × Nat) := [(0, .aload_n 0, 1), (1, .getfield 21, 3), (4, .ireturn, 1)]
set_option maxRecDepth 100000 in
theorem dt_By_size : q_ck n_By_size t_By_size = true := by decide +kernel
def c_By_size_0 (h1 : qH) (d : Nat) (a0 : Nat) (B : qB) (Q : qO → qB → Prop) : Prop := Q (.inl (some (iv (B a0 1)))) B
theorem c_By_size_0_ok {h1 : qH} {d : Nat} {a0 : Nat} {B : qB} {Q : qO → qB → Prop} (hd : 0 ≤ d) (hS : SH B) (ha0 : ob 1 a0) (w : c_By_size_0 h1 d a0 B Q) : qY h1 (d + 1) n_By_size 0 [some (.ref a0)] [] B Q := by
  unfold c_By_size_0 at w
  refine y_ldk (ok := q_isA) (n := 0) (ck_at dt_By_size 0 rfl) rfl rfl (fun _ => rfl) rfl rfl ?_
  refine y_getI (K := 1) (j := 1) (a := a0) (ck_at dt_By_size 1 rfl) own_By_size (cf_at 3 rfl) rfl rfl rfl ⟨(SH.o hS ha0), ?_⟩
  exact y_retI (ck_at dt_By_size 2 rfl) rt_By_size w
/-! PatternTrier$Bytes.room()I -/
def t_By_room : List (Nat × Instr × Nat) := [(0, .aload_n 0, 1), (1, .getfield 15, 3), (4, .arraylength, 1), (5, .aload_n 0, 1), (6, .getfield 21, 3), (9, .isub, 1), (10, .ireturn, 1)]
set_option maxRecDepth 100000 in
theorem dt_By_room : q_ck n_By_room t_By_room = true := by decide +kernel
def c_By_room_0 (h1 : qH) (d : Nat) (a0 : Nat) (B : qB) (Q : qO → qB → Prop) : Prop := Q (.inl (some (iv ((bl a0) - (B a0 1))))) B
theorem c_By_room_0_ok {h1 : qH} {d : Nat} {a0 : Nat} {B : qB} {Q : qO → qB → Prop} (hd : 0 ≤ d) (hS : SH B) (ha0 : ob 1 a0) (w : c_By_room_0 h1 d a0 B Q) : qY h1 (d + 1) n_By_room 0 [some (.ref a0)] [] B Q := by
  unfold c_By_room_0 at w
  refine y_ldk (ok := q_isA) (n := 0) (ck_at dt_By_room 0 rfl) rfl rfl (fun _ => rfl) rfl rfl ?_
  refine y_getF (r := a0 + 1) (K := 1) (j := 0) (a := a0) (ck_at dt_By_room 1 rfl) own_By_room (cf_at 2 rfl) rfl rfl ⟨(SH.o hS ha0), ?_⟩
  refine y_alen (ck_at dt_By_room 2 rfl) ⟨0, bl a0, (SH.a hS (oa1 ha0)), (bl_le ha0), ?_⟩
  refine y_ldk (ok := q_isA) (n := 0) (ck_at dt_By_room 3 rfl) rfl rfl (fun _ => rfl) rfl rfl ?_
  refine y_getI (K := 1) (j := 1) (a := a0) (ck_at dt_By_room 4 rfl) own_By_room (cf_at 3 rfl) rfl rfl rfl ⟨(SH.o hS ha0), ?_⟩
  refine y_op (ck_at dt_By_room 5 rfl) rfl o_isub ?_
  exact y_retI (ck_at dt_By_room 6 rfl) rt_By_room w
/-! PatternTrier$Bytes.at(I)I -/
def t_By_at : List (Nat × Instr × Nat) := [(0, .iload_n 1, 1), (1, .ifCond .lt 33, 3), (4, .iload_n 1, 1), (5, .aload_n 0, 1), (6, .getfield 21, 3), (9, .if_icmp .ge 25, 3), (12, .iload_n 1, 1), (13, .aload_n 0, 1), (14, .getfield 15, 3), (17, .arraylength, 1), (18, .if_icmp .ge 16, 3), (21, .aload_n 0, 1), (22, .getfield 15, 3), (25, .iload_n 1, 1), (26, .baload, 1), (27, .sipush 255, 3), (30, .iand, 1), (31, .goto 4, 3), (34, .iconst (-1), 1), (35, .ireturn, 1)]
set_option maxRecDepth 100000 in
theorem dt_By_at : q_ck n_By_at t_By_at = true := by decide +kernel
def c_By_at_0 (h1 : qH) (d : Nat) (a0 : Nat) (x1 : Int) (B : qB) (Q : qO → qB → Prop) : Prop := R32 x1 ∧ (x1 < 0 → Q (.inl (some (iv (-1)))) B) ∧ (x1 ≥ 0 → R32 (B a0 1) ∧ (x1 ≥ B a0 1 → Q (.inl (some (iv (-1)))) B) ∧ (x1 < B a0 1 → R32 (bl a0) ∧ (x1 ≥ bl a0 → Q (.inl (some (iv (-1)))) B) ∧ (x1 < bl a0 → 0 ≤ x1 ∧ x1 < bl a0 ∧ Q (.inl (some (iv (iAnd (B (a0 + 1) x1) 255)))) B)))
theorem c_By_at_0_ok {h1 : qH} {d : Nat} {a0 : Nat} {x1 : Int} {B : qB} {Q : qO → qB → Prop} (hd : 0 ≤ d) (hS : SH B) (ha0 : ob 1 a0) (w : c_By_at_0 h1 d a0 x1 B Q) : qY h1 (d + 1) n_By_at 0 [some (.ref a0), some (iv x1)] [] B Q := by
  unfold c_By_at_0 at w
  obtain ⟨p1, w⟩ := w
  refine y_ldk (ok := q_isI) (n := 1) (ck_at dt_By_at 0 rfl) rfl rfl (fun _ => rfl) rfl rfl ?_
  refine y_ifz (t := 34) (ck_at dt_By_at 1 rfl) rfl p1 ?_ ?_
  · intro q; have w := w.1 q
    refine y_op (ck_at dt_By_at 18 rfl) rfl (o_const _) ?_
    exact y_retI (ck_at dt_By_at 19 rfl) rt_By_at w
  · intro q; have w := w.2 q
    obtain ⟨p2, w⟩ := w
    refine y_ldk (ok := q_isI) (n := 1) (ck_at dt_By_at 2 rfl) rfl rfl (fun _ => rfl) rfl rfl ?_
    refine y_ldk (ok := q_isA) (n := 0) (ck_at dt_By_at 3 rfl) rfl rfl (fun _ => rfl) rfl rfl ?_
    refine y_getI (K := 1) (j := 1) (a := a0) (ck_at dt_By_at 4 rfl) own_By_at (cf_at 3 rfl) rfl rfl rfl ⟨(SH.o hS ha0), ?_⟩
    refine y_icmp (t := 34) (ck_at dt_By_at 5 rfl) rfl p1 p2 ?_ ?_
    · intro q; have w := w.1 q
      refine y_op (ck_at dt_By_at 18 rfl) rfl (o_const _) ?_
      exact y_retI (ck_at dt_By_at 19 rfl) rt_By_at w
    · intro q; have w := w.2 q
      obtain ⟨p3, w⟩ := w
      refine y_ldk (ok := q_isI) (n := 1) (ck_at dt_By_at 6 rfl) rfl rfl (fun _ => rfl) rfl rfl ?_
      refine y_ldk (ok := q_isA) (n := 0) (ck_at dt_By_at 7 rfl) rfl rfl (fun _ => rfl) rfl rfl ?_
      refine y_getF (r := a0 + 1) (K := 1) (j := 0) (a := a0) (ck_at dt_By_at 8 rfl) own_By_at (cf_at 2 rfl) rfl rfl ⟨(SH.o hS ha0), ?_⟩
      refine y_alen (ck_at dt_By_at 9 rfl) ⟨0, bl a0, (SH.a hS (oa1 ha0)), (bl_le ha0), ?_⟩
      refine y_icmp (t := 34) (ck_at dt_By_at 10 rfl) rfl p1 p3 ?_ ?_
      · intro q; have w := w.1 q
        refine y_op (ck_at dt_By_at 18 rfl) rfl (o_const _) ?_
        exact y_retI (ck_at dt_By_at 19 rfl) rt_By_at w
      · intro q; have w := w.2 q
        obtain ⟨p4, p5, w⟩ := w
        refine y_ldk (ok := q_isA) (n := 0) (ck_at dt_By_at 11 rfl) rfl rfl (fun _ => rfl) rfl rfl ?_
        refine y_getF (r := a0 + 1) (K := 1) (j := 0) (a := a0) (ck_at dt_By_at 12 rfl) own_By_at (cf_at 2 rfl) rfl rfl ⟨(SH.o hS ha0), ?_⟩
        refine y_ldk (ok := q_isI) (n := 1) (ck_at dt_By_at 13 rfl) rfl rfl (fun _ => rfl) rfl rfl ?_
        refine y_bald (ck_at dt_By_at 14 rfl) ⟨bl a0, (SH.a hS (oa1 ha0)), (bl_le ha0), p4, p5, ?_⟩
        refine y_op (ck_at dt_By_at 15 rfl) rfl (o_sipush _ (by decide)) ?_
        refine y_op (ck_at dt_By_at 16 rfl) rfl o_iand ?_
        refine y_goto (t := 35) (ck_at dt_By_at 17 rfl) rfl ?_
        exact y_retI (ck_at dt_By_at 19 rfl) rt_By_at w
/-! PatternTrier$Bytes.add(I)Z -/
def t_By_add : List (Nat × Instr × Nat) := [(0, .aload_n 0, 1), (1, .getfield 21, 3), (4, .ifCond .lt 15, 3), (7, .aload_n 0, 1), (8, .getfield 21, 3), (11, .aload_n 0, 1), (12, .getfield 15, 3), (15, .arraylength, 1), (16, .if_icmp .lt 5, 3), (19, .iconst 0, 1), (20, .ireturn, 1), (21, .aload_n 0, 1), (22, .getfield 15, 3), (25, .aload_n 0, 1), (26, .getfield 21, 3), (29, .iload_n 1, 1), (30, .i2b, 1), (31, .bastore, 1), (32, .aload_n 0, 1), (33, .dup, 1), (34, .getfield 21, 3), (37, .iconst 1, 1), (38, .iadd, 1), (39, .putfield 21, 3), (42, .iconst 1, 1), (43, .ireturn, 1)]
set_option maxRecDepth 100000 in
theorem dt_By_add : q_ck n_By_add t_By_add = true := by decide +kernel
def c_By_add_0 (h1 : qH) (d : Nat) (a0 : Nat) (x1 : Int) (B : qB) (Q : qO → qB → Prop) : Prop := R32 (B a0 1) ∧ (B a0 1 < 0 → Q (.inl (some (iv 0))) B) ∧ (B a0 1 ≥ 0 → R32 (bl a0) ∧ (B a0 1 < bl a0 → 0 ≤ B a0 1 ∧ B a0 1 < bl a0 ∧ Q (.inl (some (iv 1))) (u2 (u2 B (a0 + 1) (B a0 1) (nB (nB x1))) a0 1 (((u2 B (a0 + 1) (B a0 1) (nB (nB x1))) a0 1) + 1))) ∧ (B a0 1 ≥ bl a0 → Q (.inl (some (iv 0))) B))
theorem c_By_add_0_ok {h1 : qH} {d : Nat} {a0 : Nat} {x1 : Int} {B : qB} {Q : qO → qB → Prop} (hd : 0 ≤ d) (hS : SH B) (ha0 : ob 1 a0) (w : c_By_add_0 h1 d a0 x1 B Q) : qY h1 (d + 1) n_By_add 0 [some (.ref a0), some (iv x1)] [] B Q := by
  unfold c_By_add_0 at w
  obtain ⟨p1, w⟩ := w
  refine y_ldk (ok := q_isA) (n := 0) (ck_at dt_By_add 0 rfl) rfl rfl (fun _ => rfl) rfl rfl ?_
  refine y_getI (K := 1) (j := 1) (a := a0) (ck_at dt_By_add 1 rfl) own_By_add (cf_at 3 rfl) rfl rfl rfl ⟨(SH.o hS ha0), ?_⟩
  refine y_ifz (t := 19) (ck_at dt_By_add 2 rfl) rfl p1 ?_ ?_
  · intro q; have w := w.1 q
    refine y_op (ck_at dt_By_add 9 rfl) rfl (o_const _) ?_
    exact y_retZ (ck_at dt_By_add 10 rfl) rt_By_add (by decide) w
  · intro q; have w := w.2 q
    obtain ⟨p2, w⟩ := w
    refine y_ldk (ok := q_isA) (n := 0) (ck_at dt_By_add 3 rfl) rfl rfl (fun _ => rfl) rfl rfl ?_
    refine y_getI (K := 1) (j := 1) (a := a0) (ck_at dt_By_add 4 rfl) own_By_add (cf_at 3 rfl) rfl rfl rfl ⟨(SH.o hS ha0), ?_⟩
    refine y_ldk (ok := q_isA) (n := 0) (ck_at dt_By_add 5 rfl) rfl rfl (fun _ => rfl) rfl rfl ?_
    refine y_getF (r := a0 + 1) (K := 1) (j := 0) (a := a0) (ck_at dt_By_add 6 rfl) own_By_add (cf_at 2 rfl) rfl rfl ⟨(SH.o hS ha0), ?_⟩
    refine y_alen (ck_at dt_By_add 7 rfl) ⟨0, bl a0, (SH.a hS (oa1 ha0)), (bl_le ha0), ?_⟩
    refine y_icmp (t := 21) (ck_at dt_By_add 8 rfl) rfl p1 p2 ?_ ?_
    · intro q; have w := w.1 q
      obtain ⟨p3, p4, w⟩ := w
      refine y_ldk (ok := q_isA) (n := 0) (ck_at dt_By_add 11 rfl) rfl rfl (fun _ => rfl) rfl rfl ?_
      refine y_getF (r := a0 + 1) (K := 1) (j := 0) (a := a0) (ck_at dt_By_add 12 rfl) own_By_add (cf_at 2 rfl) rfl rfl ⟨(SH.o hS ha0), ?_⟩
      refine y_ldk (ok := q_isA) (n := 0) (ck_at dt_By_add 13 rfl) rfl rfl (fun _ => rfl) rfl rfl ?_
      refine y_getI (K := 1) (j := 1) (a := a0) (ck_at dt_By_add 14 rfl) own_By_add (cf_at 3 rfl) rfl rfl rfl ⟨(SH.o hS ha0), ?_⟩
      refine y_ldk (ok := q_isI) (n := 1) (ck_at dt_By_add 15 rfl) rfl rfl (fun _ => rfl) rfl rfl ?_
      refine y_op (ck_at dt_By_add 16 rfl) rfl o_i2b ?_
      refine y_bast (ck_at dt_By_add 17 rfl) ⟨bl a0, (SH.a hS (oa1 ha0)), (bl_le ha0), p3, p4, (oa.lt (oa1 ha0)), ?_⟩
      have hS5 := SH_u2 (b := a0 + 1) (x := B a0 1) (z := nB (nB x1)) hS p3
      refine y_ldk (ok := q_isA) (n := 0) (ck_at dt_By_add 18 rfl) rfl rfl (fun _ => rfl) rfl rfl ?_
      refine y_op (ck_at dt_By_add 19 rfl) rfl rfl ?_
      refine y_getI (K := 1) (j := 1) (a := a0) (ck_at dt_By_add 20 rfl) own_By_add (cf_at 3 rfl) rfl rfl rfl ⟨(SH.o hS5 ha0), ?_⟩
      refine y_op (ck_at dt_By_add 21 rfl) rfl (o_const _) ?_
      refine y_op (ck_at dt_By_add 22 rfl) rfl o_iadd ?_
      refine y_putI (K := 1) (j := 1) (a := a0) (ck_at dt_By_add 23 rfl) own_By_add (cf_at 3 rfl) rfl rfl rfl rfl rfl ⟨⟨SH.o hS5 ha0, ob.lt ha0⟩, ?_⟩
      have hS6 := SH_u2 (b := a0) (x := 1) (z := ((u2 B (a0 + 1) (B a0 1) (nB (nB x1))) a0 1) + 1) hS5 (by decide)
      refine y_op (ck_at dt_By_add 24 rfl) rfl (o_const _) ?_
      exact y_retZ (ck_at dt_By_add 25 rfl) rt_By_add (by decide) w
    · intro q; have w := w.2 q
      refine y_op (ck_at dt_By_add 9 rfl) rfl (o_const _) ?_
      exact y_retZ (ck_at dt_By_add 10 rfl) rt_By_add (by decide) w
/-! PatternTrier$Bytes.cut(I)V -/
def t_By_cut : List (Nat × Instr × Nat) := [(0, .iload_n 1, 1), (1, .ifCond .lt 16, 3), (4, .iload_n 1, 1), (5, .aload_n 0, 1), (6, .getfield 21, 3), (9, .if_icmp .gt 8, 3), (12, .aload_n 0, 1), (13, .iload_n 1, 1), (14, .putfield 21, 3), (17, .return_, 1)]
set_option maxRecDepth 100000 in
theorem dt_By_cut : q_ck n_By_cut t_By_cut = true := by decide +kernel
def c_By_cut_0 (h1 : qH) (d : Nat) (a0 : Nat) (x1 : Int) (B : qB) (Q : qO → qB → Prop) : Prop := R32 x1 ∧ (x1 < 0 → Q (.inl none) B) ∧ (x1 ≥ 0 → R32 (B a0 1) ∧ (x1 > B a0 1 → Q (.inl none) B) ∧ (x1 ≤ B a0 1 → Q (.inl none) (u2 B a0 1 x1)))
theorem c_By_cut_0_ok {h1 : qH} {d : Nat} {a0 : Nat} {x1 : Int} {B : qB} {Q : qO → qB → Prop} (hd : 0 ≤ d) (hS : SH B) (ha0 : ob 1 a0) (w : c_By_cut_0 h1 d a0 x1 B Q) : qY h1 (d + 1) n_By_cut 0 [some (.ref a0), some (iv x1)] [] B Q := by
  unfold c_By_cut_0 at w
  obtain ⟨p1, w⟩ := w
  refine y_ldk (ok := q_isI) (n := 1) (ck_at dt_By_cut 0 rfl) rfl rfl (fun _ => rfl) rfl rfl ?_
  refine y_ifz (t := 17) (ck_at dt_By_cut 1 rfl) rfl p1 ?_ ?_
  · intro q; have w := w.1 q
    exact y_ret0 (ck_at dt_By_cut 9 rfl) rt_By_cut w
  · intro q; have w := w.2 q
    obtain ⟨p2, w⟩ := w
    refine y_ldk (ok := q_isI) (n := 1) (ck_at dt_By_cut 2 rfl) rfl rfl (fun _ => rfl) rfl rfl ?_
    refine y_ldk (ok := q_isA) (n := 0) (ck_at dt_By_cut 3 rfl) rfl rfl (fun _ => rfl) rfl rfl ?_
    refine y_getI (K := 1) (j := 1) (a := a0) (ck_at dt_By_cut 4 rfl) own_By_cut (cf_at 3 rfl) rfl rfl rfl ⟨(SH.o hS ha0), ?_⟩
    refine y_icmp (t := 17) (ck_at dt_By_cut 5 rfl) rfl p1 p2 ?_ ?_
    · intro q; have w := w.1 q
      exact y_ret0 (ck_at dt_By_cut 9 rfl) rt_By_cut w
    · intro q; have w := w.2 q
      refine y_ldk (ok := q_isA) (n := 0) (ck_at dt_By_cut 6 rfl) rfl rfl (fun _ => rfl) rfl rfl ?_
      refine y_ldk (ok := q_isI) (n := 1) (ck_at dt_By_cut 7 rfl) rfl rfl (fun _ => rfl) rfl rfl ?_
      refine y_putI (K := 1) (j := 1) (a := a0) (ck_at dt_By_cut 8 rfl) own_By_cut (cf_at 3 rfl) rfl rfl rfl rfl rfl ⟨⟨SH.o hS ha0, ob.lt ha0⟩, ?_⟩
      have hS3 := SH_u2 (b := a0) (x := 1) (z := x1) hS (by decide)
      exact y_ret0 (ck_at dt_By_cut 9 rfl) rt_By_cut w
/-! PatternTrier$Reader.isBroken()Z -/
def t_Re_isBroken : List (Nat × Instr × Nat) := [(0, .aload_n 0, 1), (1, .getfield 19, 3), (4, .iconst (-1), 1), (5, .if_icmp .eq 7, 3), (8, .iconst 1, 1), (9, .goto 4, 3), (12, .iconst 0, 1), (13, .ireturn, 1)]
set_option maxRecDepth 100000 in
theorem dt_Re_isBroken : q_ck n_Re_isBroken t_Re_isBroken = true := by decide +kernel
def c_Re_isBroken_0 (h1 : qH) (d : Nat) (B : qB) (Q : qO → qB → Prop) : Prop := R32 (B 100 3) ∧ (B 100 3 = (-1) → Q (.inl (some (iv 0))) B) ∧ (¬ B 100 3 = (-1) → Q (.inl (some (iv 1))) B)
theorem c_Re_isBroken_0_ok {h1 : qH} {d : Nat} {B : qB} {Q : qO → qB → Prop} (hd : 0 ≤ d) (hS : SH B) (w : c_Re_isBroken_0 h1 d B Q) : qY h1 (d + 1) n_Re_isBroken 0 [some (.ref 100)] [] B Q := by
  unfold c_Re_isBroken_0 at w
  obtain ⟨p1, w⟩ := w
  refine y_ldk (ok := q_isA) (n := 0) (ck_at dt_Re_isBroken 0 rfl) rfl rfl (fun _ => rfl) rfl rfl ?_
  refine y_getI (K := 6) (j := 3) (a := 100) (ck_at dt_Re_isBroken 1 rfl) own_Re_isBroken (cf_at 24 rfl) rfl rfl rfl ⟨(SH.o hS ⟨by decide, by decide, by decide⟩), ?_⟩
  refine y_op (ck_at dt_Re_isBroken 2 rfl) rfl (o_const _) ?_
  refine y_icmp (t := 12) (ck_at dt_Re_isBroken 3 rfl) rfl p1 ⟨by decide, by decide⟩ ?_ ?_
  · intro q; have w := w.1 q
    refine y_op (ck_at dt_Re_isBroken 6 rfl) rfl (o_const _) ?_
    exact y_retZ (ck_at dt_Re_isBroken 7 rfl) rt_Re_isBroken (by decide) w
  · intro q; have w := w.2 q
    refine y_op (ck_at dt_Re_isBroken 4 rfl) rfl (o_const _) ?_
    refine y_goto (t := 13) (ck_at dt_Re_isBroken 5 rfl) rfl ?_
    exact y_retZ (ck_at dt_Re_isBroken 7 rfl) rt_Re_isBroken (by decide) w
/-! PatternTrier$Reader.isRowEnd(I)Z -/
def t_Re_isRowEnd : List (Nat × Instr × Nat) := [(0, .iload_n 0, 1), (1, .iconst (-1), 1), (2, .if_icmp .eq 15, 3), (5, .iload_n 0, 1), (6, .bipush 124, 2), (8, .if_icmp .eq 9, 3), (11, .iload_n 0, 1), (12, .bipush 41, 2), (14, .if_icmp .ne 7, 3), (17, .iconst 1, 1), (18, .goto 4, 3), (21, .iconst 0, 1), (22, .ireturn, 1)]
set_option maxRecDepth 100000 in
theorem dt_Re_isRowEnd : q_ck n_Re_isRowEnd t_Re_isRowEnd = true := by decide +kernel
def c_Re_isRowEnd_0 (h1 : qH) (d : Nat) (x0 : Int) (B : qB) (Q : qO → qB → Prop) : Prop := R32 x0 ∧ (x0 = (-1) → Q (.inl (some (iv 1))) B) ∧ (¬ x0 = (-1) → (x0 = 124 → Q (.inl (some (iv 1))) B) ∧ (¬ x0 = 124 → (¬ x0 = 41 → Q (.inl (some (iv 0))) B) ∧ (x0 = 41 → Q (.inl (some (iv 1))) B)))
theorem c_Re_isRowEnd_0_ok {h1 : qH} {d : Nat} {x0 : Int} {B : qB} {Q : qO → qB → Prop} (hd : 0 ≤ d) (hS : SH B) (w : c_Re_isRowEnd_0 h1 d x0 B Q) : qY h1 (d + 1) n_Re_isRowEnd 0 [some (iv x0)] [] B Q := by
  unfold c_Re_isRowEnd_0 at w
  obtain ⟨p1, w⟩ := w
  refine y_ldk (ok := q_isI) (n := 0) (ck_at dt_Re_isRowEnd 0 rfl) rfl rfl (fun _ => rfl) rfl rfl ?_
  refine y_op (ck_at dt_Re_isRowEnd 1 rfl) rfl (o_const _) ?_
  refine y_icmp (t := 17) (ck_at dt_Re_isRowEnd 2 rfl) rfl p1 ⟨by decide, by decide⟩ ?_ ?_
  · intro q; have w := w.1 q
    refine y_op (ck_at dt_Re_isRowEnd 9 rfl) rfl (o_const _) ?_
    refine y_goto (t := 22) (ck_at dt_Re_isRowEnd 10 rfl) rfl ?_
    exact y_retZ (ck_at dt_Re_isRowEnd 12 rfl) rt_Re_isRowEnd (by decide) w
  · intro q; have w := w.2 q
    refine y_ldk (ok := q_isI) (n := 0) (ck_at dt_Re_isRowEnd 3 rfl) rfl rfl (fun _ => rfl) rfl rfl ?_
    refine y_op (ck_at dt_Re_isRowEnd 4 rfl) rfl (o_bipush _ (by decide)) ?_
    refine y_icmp (t := 17) (ck_at dt_Re_isRowEnd 5 rfl) rfl p1 ⟨by decide, by decide⟩ ?_ ?_
    · intro q; have w := w.1 q
      refine y_op (ck_at dt_Re_isRowEnd 9 rfl) rfl (o_const _) ?_
      refine y_goto (t := 22) (ck_at dt_Re_isRowEnd 10 rfl) rfl ?_
      exact y_retZ (ck_at dt_Re_isRowEnd 12 rfl) rt_Re_isRowEnd (by decide) w
    · intro q; have w := w.2 q
      refine y_ldk (ok := q_isI) (n := 0) (ck_at dt_Re_isRowEnd 6 rfl) rfl rfl (fun _ => rfl) rfl rfl ?_
      refine y_op (ck_at dt_Re_isRowEnd 7 rfl) rfl (o_bipush _ (by decide)) ?_
      refine y_icmp (t := 21) (ck_at dt_Re_isRowEnd 8 rfl) rfl p1 ⟨by decide, by decide⟩ ?_ ?_
      · intro q; have w := w.1 q
        refine y_op (ck_at dt_Re_isRowEnd 11 rfl) rfl (o_const _) ?_
        exact y_retZ (ck_at dt_Re_isRowEnd 12 rfl) rt_Re_isRowEnd (by decide) w
      · intro q; have w := w.2 q
        refine y_op (ck_at dt_Re_isRowEnd 9 rfl) rfl (o_const _) ?_
        refine y_goto (t := 22) (ck_at dt_Re_isRowEnd 10 rfl) rfl ?_
        exact y_retZ (ck_at dt_Re_isRowEnd 12 rfl) rt_Re_isRowEnd (by decide) w
/-! PatternTrier$Reader.isQuantifier(I)Z -/
def t_Re_isQuantifier : List (Nat × Instr × Nat) := [(0, .iload_n 0, 1), (1, .bipush 42, 2), (3, .if_icmp .eq 21, 3), (6, .iload_n 0, 1), (7, .bipush 43, 2), (9, .if_icmp .eq 15, 3), (12, .iload_n 0, 1), (13, .bipush 63, 2), (15, .if_icmp .eq 9, 3), (18, .iload_n 0, 1), (19, .bipush 123, 2), (21, .if_icmp .ne 7, 3), (24, .iconst 1, 1), (25, .goto 4, 3), (28, .iconst 0, 1), (29, .ireturn, 1)]
set_option maxRecDepth 100000 in
theorem dt_Re_isQuantifier : q_ck n_Re_isQuantifier t_Re_isQuantifier = true := by decide +kernel
def c_Re_isQuantifier_0 (h1 : qH) (d : Nat) (x0 : Int) (B : qB) (Q : qO → qB → Prop) : Prop := R32 x0 ∧ (x0 = 42 → Q (.inl (some (iv 1))) B) ∧ (¬ x0 = 42 → (x0 = 43 → Q (.inl (some (iv 1))) B) ∧ (¬ x0 = 43 → (x0 = 63 → Q (.inl (some (iv 1))) B) ∧ (¬ x0 = 63 → (¬ x0 = 123 → Q (.inl (some (iv 0))) B) ∧ (x0 = 123 → Q (.inl (some (iv 1))) B))))
theorem c_Re_isQuantifier_0_ok {h1 : qH} {d : Nat} {x0 : Int} {B : qB} {Q : qO → qB → Prop} (hd : 0 ≤ d) (hS : SH B) (w : c_Re_isQuantifier_0 h1 d x0 B Q) : qY h1 (d + 1) n_Re_isQuantifier 0 [some (iv x0)] [] B Q := by
  unfold c_Re_isQuantifier_0 at w
  obtain ⟨p1, w⟩ := w
  refine y_ldk (ok := q_isI) (n := 0) (ck_at dt_Re_isQuantifier 0 rfl) rfl rfl (fun _ => rfl) rfl rfl ?_
  refine y_op (ck_at dt_Re_isQuantifier 1 rfl) rfl (o_bipush _ (by decide)) ?_
  refine y_icmp (t := 24) (ck_at dt_Re_isQuantifier 2 rfl) rfl p1 ⟨by decide, by decide⟩ ?_ ?_
  · intro q; have w := w.1 q
    refine y_op (ck_at dt_Re_isQuantifier 12 rfl) rfl (o_const _) ?_
    refine y_goto (t := 29) (ck_at dt_Re_isQuantifier 13 rfl) rfl ?_
    exact y_retZ (ck_at dt_Re_isQuantifier 15 rfl) rt_Re_isQuantifier (by decide) w
  · intro q; have w := w.2 q
    refine y_ldk (ok := q_isI) (n := 0) (ck_at dt_Re_isQuantifier 3 rfl) rfl rfl (fun _ => rfl) rfl rfl ?_
    refine y_op (ck_at dt_Re_isQuantifier 4 rfl) rfl (o_bipush _ (by decide)) ?_
    refine y_icmp (t := 24) (ck_at dt_Re_isQuantifier 5 rfl) rfl p1 ⟨by decide, by decide⟩ ?_ ?_
    · intro q; have w := w.1 q
      refine y_op (ck_at dt_Re_isQuantifier 12 rfl) rfl (o_const _) ?_
      refine y_goto (t := 29) (ck_at dt_Re_isQuantifier 13 rfl) rfl ?_
      exact y_retZ (ck_at dt_Re_isQuantifier 15 rfl) rt_Re_isQuantifier (by decide) w
    · intro q; have w := w.2 q
      refine y_ldk (ok := q_isI) (n := 0) (ck_at dt_Re_isQuantifier 6 rfl) rfl rfl (fun _ => rfl) rfl rfl ?_
      refine y_op (ck_at dt_Re_isQuantifier 7 rfl) rfl (o_bipush _ (by decide)) ?_
      refine y_icmp (t := 24) (ck_at dt_Re_isQuantifier 8 rfl) rfl p1 ⟨by decide, by decide⟩ ?_ ?_
      · intro q; have w := w.1 q
        refine y_op (ck_at dt_Re_isQuantifier 12 rfl) rfl (o_const _) ?_
        refine y_goto (t := 29) (ck_at dt_Re_isQuantifier 13 rfl) rfl ?_
        exact y_retZ (ck_at dt_Re_isQuantifier 15 rfl) rt_Re_isQuantifier (by decide) w
      · intro q; have w := w.2 q
        refine y_ldk (ok := q_isI) (n := 0) (ck_at dt_Re_isQuantifier 9 rfl) rfl rfl (fun _ => rfl) rfl rfl ?_
        refine y_op (ck_at dt_Re_isQuantifier 10 rfl) rfl (o_bipush _ (by decide)) ?_
        refine y_icmp (t := 28) (ck_at dt_Re_isQuantifier 11 rfl) rfl p1 ⟨by decide, by decide⟩ ?_ ?_
        · intro q; have w := w.1 q
          refine y_op (ck_at dt_Re_isQuantifier 14 rfl) rfl (o_const _) ?_
          exact y_retZ (ck_at dt_Re_isQuantifier 15 rfl) rt_Re_isQuantifier (by decide) w
        · intro q; have w := w.2 q
          refine y_op (ck_at dt_Re_isQuantifier 12 rfl) rfl (o_const _) ?_
          refine y_goto (t := 29) (ck_at dt_Re_isQuantifier 13 rfl) rfl ?_
          exact y_retZ (ck_at dt_Re_isQuantifier 15 rfl) rt_Re_isQuantifier (by decide) w
/-! PatternTrier$Reader.classOf(I)I -/
def t_Re_classOf : List (Nat × Instr × Nat) := [(0, .iload_n 0, 1), (1, .lookupswitch 67 #[(68, 59), (83, 64), (87, 61), (100, 59), (115, 64), (119, 61)], 59), (60, .iconst 0, 1), (61, .ireturn, 1), (62, .bipush 8, 2), (64, .ireturn, 1), (65, .bipush 16, 2), (67, .ireturn, 1), (68, .iconst (-1), 1), (69, .ireturn, 1)]
set_option maxRecDepth 100000 in
theorem dt_Re_classOf : q_ck n_Re_classOf t_Re_classOf = true := by decide +kernel
def c_Re_classOf_0 (h1 : qH) (d : Nat) (x0 : Int) (B : qB) (Q : qO → qB → Prop) : Prop := R32 x0 ∧ (x0 = 68 → Q (.inl (some (iv 0))) B) ∧ (x0 = 83 → Q (.inl (some (iv 16))) B) ∧ (x0 = 87 → Q (.inl (some (iv 8))) B) ∧ (x0 = 100 → Q (.inl (some (iv 0))) B) ∧ (x0 = 115 → Q (.inl (some (iv 16))) B) ∧ (x0 = 119 → Q (.inl (some (iv 8))) B) ∧ (¬ x0 = 68 → ¬ x0 = 83 → ¬ x0 = 87 → ¬ x0 = 100 → ¬ x0 = 115 → ¬ x0 = 119 → Q (.inl (some (iv (-1)))) B)
theorem c_Re_classOf_0_ok {h1 : qH} {d : Nat} {x0 : Int} {B : qB} {Q : qO → qB → Prop} (hd : 0 ≤ d) (hS : SH B) (w : c_Re_classOf_0 h1 d x0 B Q) : qY h1 (d + 1) n_Re_classOf 0 [some (iv x0)] [] B Q := by
  unfold c_Re_classOf_0 at w
  obtain ⟨p1, w⟩ := w
  refine y_ldk (ok := q_isI) (n := 0) (ck_at dt_Re_classOf 0 rfl) rfl rfl (fun _ => rfl) rfl rfl ?_
  have hx := p1
  by_cases q0 : x0 = 68
  · have w := w.1 q0
    refine y_swc (c := 68) (t := 60) (ck_at dt_Re_classOf 1 rfl) rfl (fun _ => rfl) (fun _ _ => rfl) q0 rfl ?_
    refine y_op (ck_at dt_Re_classOf 2 rfl) rfl (o_const _) ?_
    exact y_retI (ck_at dt_Re_classOf 3 rfl) rt_Re_classOf w
  by_cases q1 : x0 = 83
  · have w := w.2.1 q1
    refine y_swc (c := 83) (t := 65) (ck_at dt_Re_classOf 1 rfl) rfl (fun _ => rfl) (fun _ _ => rfl) q1 rfl ?_
    refine y_op (ck_at dt_Re_classOf 6 rfl) rfl (o_bipush _ (by decide)) ?_
    exact y_retI (ck_at dt_Re_classOf 7 rfl) rt_Re_classOf w
  by_cases q2 : x0 = 87
  · have w := w.2.2.1 q2
    refine y_swc (c := 87) (t := 62) (ck_at dt_Re_classOf 1 rfl) rfl (fun _ => rfl) (fun _ _ => rfl) q2 rfl ?_
    refine y_op (ck_at dt_Re_classOf 4 rfl) rfl (o_bipush _ (by decide)) ?_
    exact y_retI (ck_at dt_Re_classOf 5 rfl) rt_Re_classOf w
  by_cases q3 : x0 = 100
  · have w := w.2.2.2.1 q3
    refine y_swc (c := 100) (t := 60) (ck_at dt_Re_classOf 1 rfl) rfl (fun _ => rfl) (fun _ _ => rfl) q3 rfl ?_
    refine y_op (ck_at dt_Re_classOf 2 rfl) rfl (o_const _) ?_
    exact y_retI (ck_at dt_Re_classOf 3 rfl) rt_Re_classOf w
  by_cases q4 : x0 = 115
  · have w := w.2.2.2.2.1 q4
    refine y_swc (c := 115) (t := 65) (ck_at dt_Re_classOf 1 rfl) rfl (fun _ => rfl) (fun _ _ => rfl) q4 rfl ?_
    refine y_op (ck_at dt_Re_classOf 6 rfl) rfl (o_bipush _ (by decide)) ?_
    exact y_retI (ck_at dt_Re_classOf 7 rfl) rt_Re_classOf w
  by_cases q5 : x0 = 119
  · have w := w.2.2.2.2.2.1 q5
    refine y_swc (c := 119) (t := 62) (ck_at dt_Re_classOf 1 rfl) rfl (fun _ => rfl) (fun _ _ => rfl) q5 rfl ?_
    refine y_op (ck_at dt_Re_classOf 4 rfl) rfl (o_bipush _ (by decide)) ?_
    exact y_retI (ck_at dt_Re_classOf 5 rfl) rt_Re_classOf w
  have w := w.2.2.2.2.2.2 q0 q1 q2 q3 q4 q5
  refine y_lswd (t := 68) (ck_at dt_Re_classOf 1 rfl) hx (by decide) (fun e he => ?_) rfl ?_
  · simp only [List.mem_cons, List.not_mem_nil, or_false] at he
    rcases he with rfl | rfl | rfl | rfl | rfl | rfl <;> assumption
  refine y_op (ck_at dt_Re_classOf 8 rfl) rfl (o_const _) ?_
  exact y_retI (ck_at dt_Re_classOf 9 rfl) rt_Re_classOf w
/-! PatternTrier$Reader.breakAt(I)V -/
def t_Re_breakAt : List (Nat × Instr × Nat) := [(0, .aload_n 0, 1), (1, .getfield 19, 3), (4, .iconst (-1), 1), (5, .if_icmp .ne 8, 3), (8, .aload_n 0, 1), (9, .iload_n 1, 1), (10, .putfield 19, 3), (13, .return_, 1)]
set_option maxRecDepth 100000 in
theorem dt_Re_breakAt : q_ck n_Re_breakAt t_Re_breakAt = true := by decide +kernel
def c_Re_breakAt_0 (h1 : qH) (d : Nat) (x1 : Int) (B : qB) (Q : qO → qB → Prop) : Prop := R32 (B 100 3) ∧ (¬ B 100 3 = (-1) → Q (.inl none) B) ∧ (B 100 3 = (-1) → Q (.inl none) (u2 B 100 3 x1))
theorem c_Re_breakAt_0_ok {h1 : qH} {d : Nat} {x1 : Int} {B : qB} {Q : qO → qB → Prop} (hd : 0 ≤ d) (hS : SH B) (w : c_Re_breakAt_0 h1 d x1 B Q) : qY h1 (d + 1) n_Re_breakAt 0 [some (.ref 100), some (iv x1)] [] B Q := by
  unfold c_Re_breakAt_0 at w
  obtain ⟨p1, w⟩ := w
  refine y_ldk (ok := q_isA) (n := 0) (ck_at dt_Re_breakAt 0 rfl) rfl rfl (fun _ => rfl) rfl rfl ?_
  refine y_getI (K := 6) (j := 3) (a := 100) (ck_at dt_Re_breakAt 1 rfl) own_Re_breakAt (cf_at 24 rfl) rfl rfl rfl ⟨(SH.o hS ⟨by decide, by decide, by decide⟩), ?_⟩
  refine y_op (ck_at dt_Re_breakAt 2 rfl) rfl (o_const _) ?_
  refine y_icmp (t := 13) (ck_at dt_Re_breakAt 3 rfl) rfl p1 ⟨by decide, by decide⟩ ?_ ?_
  · intro q; have w := w.1 q
    exact y_ret0 (ck_at dt_Re_breakAt 7 rfl) rt_Re_breakAt w
  · intro q; have w := w.2 q
    refine y_ldk (ok := q_isA) (n := 0) (ck_at dt_Re_breakAt 4 rfl) rfl rfl (fun _ => rfl) rfl rfl ?_
    refine y_ldk (ok := q_isI) (n := 1) (ck_at dt_Re_breakAt 5 rfl) rfl rfl (fun _ => rfl) rfl rfl ?_
    refine y_putI (K := 6) (j := 3) (a := 100) (ck_at dt_Re_breakAt 6 rfl) own_Re_breakAt (cf_at 24 rfl) rfl rfl rfl rfl rfl ⟨⟨SH.o hS ⟨by decide, by decide, by decide⟩, by decide⟩, ?_⟩
    have hS2 := SH_u2 (b := 100) (x := 3) (z := x1) hS (by decide)
    exact y_ret0 (ck_at dt_Re_breakAt 7 rfl) rt_Re_breakAt w
/-! PatternTrier$Reader.root()I -/
def t_Re_root : List (Nat × Instr × Nat) := [(0, .aload_n 0, 1), (1, .getfield 44, 3), (4, .ireturn, 1)]
set_option maxRecDepth 100000 in
theorem dt_Re_root : q_ck n_Re_root t_Re_root = true := by decide +kernel
def c_Re_root_0 (h1 : qH) (d : Nat) (B : qB) (Q : qO → qB → Prop) : Prop := Q (.inl (some (iv (B 100 4)))) B
theorem c_Re_root_0_ok {h1 : qH} {d : Nat} {B : qB} {Q : qO → qB → Prop} (hd : 0 ≤ d) (hS : SH B) (w : c_Re_root_0 h1 d B Q) : qY h1 (d + 1) n_Re_root 0 [some (.ref 100)] [] B Q := by
  unfold c_Re_root_0 at w
  refine y_ldk (ok := q_isA) (n := 0) (ck_at dt_Re_root 0 rfl) rfl rfl (fun _ => rfl) rfl rfl ?_
  refine y_getI (K := 6) (j := 4) (a := 100) (ck_at dt_Re_root 1 rfl) own_Re_root (cf_at 29 rfl) rfl rfl rfl ⟨(SH.o hS ⟨by decide, by decide, by decide⟩), ?_⟩
  exact y_retI (ck_at dt_Re_root 2 rfl) rt_Re_root w
/-! PatternTrier$Reader.groups()I -/
def t_Re_groups : List (Nat × Instr × Nat) := [(0, .aload_n 0, 1), (1, .getfield 31, 3), (4, .ireturn, 1)]
set_option maxRecDepth 100000 in
theorem dt_Re_groups : q_ck n_Re_groups t_Re_groups = true := by decide +kernel
def c_Re_groups_0 (h1 : qH) (d : Nat) (B : qB) (Q : qO → qB → Prop) : Prop := Q (.inl (some (iv (B 100 5)))) B
theorem c_Re_groups_0_ok {h1 : qH} {d : Nat} {B : qB} {Q : qO → qB → Prop} (hd : 0 ≤ d) (hS : SH B) (w : c_Re_groups_0 h1 d B Q) : qY h1 (d + 1) n_Re_groups 0 [some (.ref 100)] [] B Q := by
  unfold c_Re_groups_0 at w
  refine y_ldk (ok := q_isA) (n := 0) (ck_at dt_Re_groups 0 rfl) rfl rfl (fun _ => rfl) rfl rfl ?_
  refine y_getI (K := 6) (j := 5) (a := 100) (ck_at dt_Re_groups 1 rfl) own_Re_groups (cf_at 26 rfl) rfl rfl rfl ⟨(SH.o hS ⟨by decide, by decide, by decide⟩), ?_⟩
  exact y_retI (ck_at dt_Re_groups 2 rfl) rt_Re_groups w
/-! PatternTrier$Tree.sets()LPatternTrier$Sets; -/
def t_Tr_sets : List (Nat × Instr × Nat) := [(0, .aload_n 0, 1), (1, .getfield 36, 3), (4, .areturn, 1)]
set_option maxRecDepth 100000 in
theorem dt_Tr_sets : q_ck n_Tr_sets t_Tr_sets = true := by decide +kernel
def c_Tr_sets_0 (h1 : qH) (d : Nat) (B : qB) (Q : qO → qB → Prop) : Prop := Q (.inl (some (.ref 98))) B
theorem c_Tr_sets_0_ok {h1 : qH} {d : Nat} {B : qB} {Q : qO → qB → Prop} (hd : 0 ≤ d) (hS : SH B) (w : c_Tr_sets_0 h1 d B Q) : qY h1 (d + 1) n_Tr_sets 0 [some (.ref 90)] [] B Q := by
  unfold c_Tr_sets_0 at w
  refine y_ldk (ok := q_isA) (n := 0) (ck_at dt_Tr_sets 0 rfl) rfl rfl (fun _ => rfl) rfl rfl ?_
  refine y_getF (r := 98) (K := 8) (j := 7) (a := 90) (ck_at dt_Tr_sets 1 rfl) own_Tr_sets (cf_at 39 rfl) rfl rfl ⟨(SH.o hS ⟨by decide, by decide, by decide⟩), ?_⟩
  exact y_retR (ck_at dt_Tr_sets 2 rfl) rt_Tr_sets rfl w
/-! PatternTrier$Sets.clear()V -/
def t_Se_clear : List (Nat × Instr × Nat) := [(0, .aload_n 0, 1), (1, .iconst 0, 1), (2, .putfield 15, 3), (5, .return_, 1)]
set_option maxRecDepth 100000 in
theorem dt_Se_clear : q_ck n_Se_clear t_Se_clear = true := by decide +kernel
def c_Se_clear_0 (h1 : qH) (d : Nat) (a0 : Nat) (B : qB) (Q : qO → qB → Prop) : Prop := Q (.inl none) (u2 B a0 1 0)
theorem c_Se_clear_0_ok {h1 : qH} {d : Nat} {a0 : Nat} {B : qB} {Q : qO → qB → Prop} (hd : 0 ≤ d) (hS : SH B) (ha0 : ob 7 a0) (w : c_Se_clear_0 h1 d a0 B Q) : qY h1 (d + 1) n_Se_clear 0 [some (.ref a0)] [] B Q := by
  unfold c_Se_clear_0 at w
  refine y_ldk (ok := q_isA) (n := 0) (ck_at dt_Se_clear 0 rfl) rfl rfl (fun _ => rfl) rfl rfl ?_
  refine y_op (ck_at dt_Se_clear 1 rfl) rfl (o_const _) ?_
  refine y_putI (K := 7) (j := 1) (a := a0) (ck_at dt_Se_clear 2 rfl) own_Se_clear (cf_at 31 rfl) rfl rfl rfl rfl rfl ⟨⟨SH.o hS ha0, ob.lt ha0⟩, ?_⟩
  have hS1 := SH_u2 (b := a0) (x := 1) (z := 0) hS (by decide)
  exact y_ret0 (ck_at dt_Se_clear 3 rfl) rt_Se_clear w
/-! PatternTrier$Program.weight()I -/
def t_Pr_weight : List (Nat × Instr × Nat) := [(0, .aload_n 0, 1), (1, .getfield 37, 3), (4, .ireturn, 1)]
set_option maxRecDepth 100000 in
theorem dt_Pr_weight : q_ck n_Pr_weight t_Pr_weight = true := by decide +kernel
def c_Pr_weight_0 (h1 : qH) (d : Nat) (a0 : Nat) (B : qB) (Q : qO → qB → Prop) : Prop := Q (.inl (some (iv (B a0 10)))) B
theorem c_Pr_weight_0_ok {h1 : qH} {d : Nat} {a0 : Nat} {B : qB} {Q : qO → qB → Prop} (hd : 0 ≤ d) (hS : SH B) (ha0 : ob 5 a0) (w : c_Pr_weight_0 h1 d a0 B Q) : qY h1 (d + 1) n_Pr_weight 0 [some (.ref a0)] [] B Q := by
  unfold c_Pr_weight_0 at w
  refine y_ldk (ok := q_isA) (n := 0) (ck_at dt_Pr_weight 0 rfl) rfl rfl (fun _ => rfl) rfl rfl ?_
  refine y_getI (K := 5) (j := 10) (a := a0) (ck_at dt_Pr_weight 1 rfl) own_Pr_weight (cf_at 16 rfl) rfl rfl rfl ⟨(SH.o hS ha0), ?_⟩
  exact y_retI (ck_at dt_Pr_weight 2 rfl) rt_Pr_weight w
/-! PatternTrier$Program.slots()I -/
def t_Pr_slots : List (Nat × Instr × Nat) := [(0, .aload_n 0, 1), (1, .getfield 50, 3), (4, .ireturn, 1)]
set_option maxRecDepth 100000 in
theorem dt_Pr_slots : q_ck n_Pr_slots t_Pr_slots = true := by decide +kernel
def c_Pr_slots_0 (h1 : qH) (d : Nat) (a0 : Nat) (B : qB) (Q : qO → qB → Prop) : Prop := Q (.inl (some (iv (B a0 8)))) B
theorem c_Pr_slots_0_ok {h1 : qH} {d : Nat} {a0 : Nat} {B : qB} {Q : qO → qB → Prop} (hd : 0 ≤ d) (hS : SH B) (ha0 : ob 5 a0) (w : c_Pr_slots_0 h1 d a0 B Q) : qY h1 (d + 1) n_Pr_slots 0 [some (.ref a0)] [] B Q := by
  unfold c_Pr_slots_0 at w
  refine y_ldk (ok := q_isA) (n := 0) (ck_at dt_Pr_slots 0 rfl) rfl rfl (fun _ => rfl) rfl rfl ?_
  refine y_getI (K := 5) (j := 8) (a := a0) (ck_at dt_Pr_slots 1 rfl) own_Pr_slots (cf_at 20 rfl) rfl rfl rfl ⟨(SH.o hS ha0), ?_⟩
  exact y_retI (ck_at dt_Pr_slots 2 rfl) rt_Pr_slots w
/-! PatternTrier$Program.entry()I -/
def t_Pr_entry : List (Nat × Instr × Nat) := [(0, .aload_n 0, 1), (1, .getfield 61, 3), (4, .ireturn, 1)]
set_option maxRecDepth 100000 in
theorem dt_Pr_entry : q_ck n_Pr_entry t_Pr_entry = true := by decide +kernel
def c_Pr_entry_0 (h1 : qH) (d : Nat) (a0 : Nat) (B : qB) (Q : qO → qB → Prop) : Prop := Q (.inl (some (iv (B a0 9)))) B
theorem c_Pr_entry_0_ok {h1 : qH} {d : Nat} {a0 : Nat} {B : qB} {Q : qO → qB → Prop} (hd : 0 ≤ d) (hS : SH B) (ha0 : ob 5 a0) (w : c_Pr_entry_0 h1 d a0 B Q) : qY h1 (d + 1) n_Pr_entry 0 [some (.ref a0)] [] B Q := by
  unfold c_Pr_entry_0 at w
  refine y_ldk (ok := q_isA) (n := 0) (ck_at dt_Pr_entry 0 rfl) rfl rfl (fun _ => rfl) rfl rfl ?_
  refine y_getI (K := 5) (j := 9) (a := a0) (ck_at dt_Pr_entry 1 rfl) own_Pr_entry (cf_at 21 rfl) rfl rfl rfl ⟨(SH.o hS ha0), ?_⟩
  exact y_retI (ck_at dt_Pr_entry 2 rfl) rt_Pr_entry w
/-! PatternTrier$Program.groups()I -/
def t_Pr_groups : List (Nat × Instr × Nat) := [(0, .aload_n 0, 1), (1, .getfield 41, 3), (4, .ireturn, 1)]
set_option maxRecDepth 100000 in
theorem dt_Pr_groups : q_ck n_Pr_groups t_Pr_groups = true := by decide +kernel
def c_Pr_groups_0 (h1 : qH) (d : Nat) (a0 : Nat) (B : qB) (Q : qO → qB → Prop) : Prop := Q (.inl (some (iv (B a0 11)))) B
theorem c_Pr_groups_0_ok {h1 : qH} {d : Nat} {a0 : Nat} {B : qB} {Q : qO → qB → Prop} (hd : 0 ≤ d) (hS : SH B) (ha0 : ob 5 a0) (w : c_Pr_groups_0 h1 d a0 B Q) : qY h1 (d + 1) n_Pr_groups 0 [some (.ref a0)] [] B Q := by
  unfold c_Pr_groups_0 at w
  refine y_ldk (ok := q_isA) (n := 0) (ck_at dt_Pr_groups 0 rfl) rfl rfl (fun _ => rfl) rfl rfl ?_
  refine y_getI (K := 5) (j := 11) (a := a0) (ck_at dt_Pr_groups 1 rfl) own_Pr_groups (cf_at 17 rfl) rfl rfl rfl ⟨(SH.o hS ha0), ?_⟩
  exact y_retI (ck_at dt_Pr_groups 2 rfl) rt_Pr_groups w
/-! PatternTrier$Program.onlySet()I -/
def t_Pr_onlySet : List (Nat × Instr × Nat) := [(0, .aload_n 0, 1), (1, .getfield 44, 3), (4, .ireturn, 1)]
set_option maxRecDepth 100000 in
theorem dt_Pr_onlySet : q_ck n_Pr_onlySet t_Pr_onlySet = true := by decide +kernel
def c_Pr_onlySet_0 (h1 : qH) (d : Nat) (a0 : Nat) (B : qB) (Q : qO → qB → Prop) : Prop := Q (.inl (some (iv (B a0 12)))) B
theorem c_Pr_onlySet_0_ok {h1 : qH} {d : Nat} {a0 : Nat} {B : qB} {Q : qO → qB → Prop} (hd : 0 ≤ d) (hS : SH B) (ha0 : ob 5 a0) (w : c_Pr_onlySet_0 h1 d a0 B Q) : qY h1 (d + 1) n_Pr_onlySet 0 [some (.ref a0)] [] B Q := by
  unfold c_Pr_onlySet_0 at w
  refine y_ldk (ok := q_isA) (n := 0) (ck_at dt_Pr_onlySet 0 rfl) rfl rfl (fun _ => rfl) rfl rfl ?_
  refine y_getI (K := 5) (j := 12) (a := a0) (ck_at dt_Pr_onlySet 1 rfl) own_Pr_onlySet (cf_at 18 rfl) rfl rfl rfl ⟨(SH.o hS ha0), ?_⟩
  exact y_retI (ck_at dt_Pr_onlySet 2 rfl) rt_Pr_onlySet w
/-! PatternTrier$Program.kindOf(I)I -/
def t_Pr_kindOf : List (Nat × Instr × Nat) := [(0, .iload_n 1, 1), (1, .ifCond .lt 19, 3), (4, .iload_n 1, 1), (5, .sipush 608, 3), (8, .if_icmp .ge 12, 3), (11, .aload_n 0, 1), (12, .getfield 11, 3), (15, .iload_n 1, 1), (16, .iaload, 1), (17, .goto 4, 3), (20, .iconst 0, 1), (21, .ireturn, 1)]
set_option maxRecDepth 100000 in
theorem dt_Pr_kindOf : q_ck n_Pr_kindOf t_Pr_kindOf = true := by decide +kernel
def c_Pr_kindOf_0 (h1 : qH) (d : Nat) (a0 : Nat) (x1 : Int) (B : qB) (Q : qO → qB → Prop) : Prop := R32 x1 ∧ (x1 < 0 → Q (.inl (some (iv 0))) B) ∧ (x1 ≥ 0 → (x1 ≥ 608 → Q (.inl (some (iv 0))) B) ∧ (x1 < 608 → 0 ≤ x1 ∧ x1 < 608 ∧ Q (.inl (some (iv (B (a0 + 1) x1)))) B))
theorem c_Pr_kindOf_0_ok {h1 : qH} {d : Nat} {a0 : Nat} {x1 : Int} {B : qB} {Q : qO → qB → Prop} (hd : 0 ≤ d) (hS : SH B) (ha0 : ob 5 a0) (w : c_Pr_kindOf_0 h1 d a0 x1 B Q) : qY h1 (d + 1) n_Pr_kindOf 0 [some (.ref a0), some (iv x1)] [] B Q := by
  unfold c_Pr_kindOf_0 at w
  obtain ⟨p1, w⟩ := w
  refine y_ldk (ok := q_isI) (n := 1) (ck_at dt_Pr_kindOf 0 rfl) rfl rfl (fun _ => rfl) rfl rfl ?_
  refine y_ifz (t := 20) (ck_at dt_Pr_kindOf 1 rfl) rfl p1 ?_ ?_
  · intro q; have w := w.1 q
    refine y_op (ck_at dt_Pr_kindOf 10 rfl) rfl (o_const _) ?_
    exact y_retI (ck_at dt_Pr_kindOf 11 rfl) rt_Pr_kindOf w
  · intro q; have w := w.2 q
    refine y_ldk (ok := q_isI) (n := 1) (ck_at dt_Pr_kindOf 2 rfl) rfl rfl (fun _ => rfl) rfl rfl ?_
    refine y_op (ck_at dt_Pr_kindOf 3 rfl) rfl (o_sipush _ (by decide)) ?_
    refine y_icmp (t := 20) (ck_at dt_Pr_kindOf 4 rfl) rfl p1 ⟨by decide, by decide⟩ ?_ ?_
    · intro q; have w := w.1 q
      refine y_op (ck_at dt_Pr_kindOf 10 rfl) rfl (o_const _) ?_
      exact y_retI (ck_at dt_Pr_kindOf 11 rfl) rt_Pr_kindOf w
    · intro q; have w := w.2 q
      obtain ⟨p2, p3, w⟩ := w
      refine y_ldk (ok := q_isA) (n := 0) (ck_at dt_Pr_kindOf 5 rfl) rfl rfl (fun _ => rfl) rfl rfl ?_
      refine y_getF (r := a0 + 1) (K := 5) (j := 0) (a := a0) (ck_at dt_Pr_kindOf 6 rfl) own_Pr_kindOf (cf_at 9 rfl) rfl rfl ⟨(SH.o hS ha0), ?_⟩
      refine y_ldk (ok := q_isI) (n := 1) (ck_at dt_Pr_kindOf 7 rfl) rfl rfl (fun _ => rfl) rfl rfl ?_
      refine y_iald (ck_at dt_Pr_kindOf 8 rfl) ⟨608, (SH.a hS (oa5 ha0 0 (by decide))), (by decide), p2, p3, ?_⟩
      refine y_goto (t := 21) (ck_at dt_Pr_kindOf 9 rfl) rfl ?_
      exact y_retI (ck_at dt_Pr_kindOf 11 rfl) rt_Pr_kindOf w
/-! PatternTrier$Program.valueOf(I)I -/
def t_Pr_valueOf : List (Nat × Instr × Nat) := [(0, .iload_n 1, 1), (1, .ifCond .lt 19, 3), (4, .iload_n 1, 1), (5, .sipush 608, 3), (8, .if_icmp .ge 12, 3), (11, .aload_n 0, 1), (12, .getfield 15, 3), (15, .iload_n 1, 1), (16, .iaload, 1), (17, .goto 4, 3), (20, .iconst 0, 1), (21, .ireturn, 1)]
set_option maxRecDepth 100000 in
theorem dt_Pr_valueOf : q_ck n_Pr_valueOf t_Pr_valueOf = true := by decide +kernel
def c_Pr_valueOf_0 (h1 : qH) (d : Nat) (a0 : Nat) (x1 : Int) (B : qB) (Q : qO → qB → Prop) : Prop := R32 x1 ∧ (x1 < 0 → Q (.inl (some (iv 0))) B) ∧ (x1 ≥ 0 → (x1 ≥ 608 → Q (.inl (some (iv 0))) B) ∧ (x1 < 608 → 0 ≤ x1 ∧ x1 < 608 ∧ Q (.inl (some (iv (B (a0 + 2) x1)))) B))
theorem c_Pr_valueOf_0_ok {h1 : qH} {d : Nat} {a0 : Nat} {x1 : Int} {B : qB} {Q : qO → qB → Prop} (hd : 0 ≤ d) (hS : SH B) (ha0 : ob 5 a0) (w : c_Pr_valueOf_0 h1 d a0 x1 B Q) : qY h1 (d + 1) n_Pr_valueOf 0 [some (.ref a0), some (iv x1)] [] B Q := by
  unfold c_Pr_valueOf_0 at w
  obtain ⟨p1, w⟩ := w
  refine y_ldk (ok := q_isI) (n := 1) (ck_at dt_Pr_valueOf 0 rfl) rfl rfl (fun _ => rfl) rfl rfl ?_
  refine y_ifz (t := 20) (ck_at dt_Pr_valueOf 1 rfl) rfl p1 ?_ ?_
  · intro q; have w := w.1 q
    refine y_op (ck_at dt_Pr_valueOf 10 rfl) rfl (o_const _) ?_
    exact y_retI (ck_at dt_Pr_valueOf 11 rfl) rt_Pr_valueOf w
  · intro q; have w := w.2 q
    refine y_ldk (ok := q_isI) (n := 1) (ck_at dt_Pr_valueOf 2 rfl) rfl rfl (fun _ => rfl) rfl rfl ?_
    refine y_op (ck_at dt_Pr_valueOf 3 rfl) rfl (o_sipush _ (by decide)) ?_
    refine y_icmp (t := 20) (ck_at dt_Pr_valueOf 4 rfl) rfl p1 ⟨by decide, by decide⟩ ?_ ?_
    · intro q; have w := w.1 q
      refine y_op (ck_at dt_Pr_valueOf 10 rfl) rfl (o_const _) ?_
      exact y_retI (ck_at dt_Pr_valueOf 11 rfl) rt_Pr_valueOf w
    · intro q; have w := w.2 q
      obtain ⟨p2, p3, w⟩ := w
      refine y_ldk (ok := q_isA) (n := 0) (ck_at dt_Pr_valueOf 5 rfl) rfl rfl (fun _ => rfl) rfl rfl ?_
      refine y_getF (r := a0 + 2) (K := 5) (j := 1) (a := a0) (ck_at dt_Pr_valueOf 6 rfl) own_Pr_valueOf (cf_at 10 rfl) rfl rfl ⟨(SH.o hS ha0), ?_⟩
      refine y_ldk (ok := q_isI) (n := 1) (ck_at dt_Pr_valueOf 7 rfl) rfl rfl (fun _ => rfl) rfl rfl ?_
      refine y_iald (ck_at dt_Pr_valueOf 8 rfl) ⟨608, (SH.a hS (oa5 ha0 1 (by decide))), (by decide), p2, p3, ?_⟩
      refine y_goto (t := 21) (ck_at dt_Pr_valueOf 9 rfl) rfl ?_
      exact y_retI (ck_at dt_Pr_valueOf 11 rfl) rt_Pr_valueOf w
/-! PatternTrier$Program.nextOf(I)I -/
def t_Pr_nextOf : List (Nat × Instr × Nat) := [(0, .iload_n 1, 1), (1, .ifCond .lt 19, 3), (4, .iload_n 1, 1), (5, .sipush 608, 3), (8, .if_icmp .ge 12, 3), (11, .aload_n 0, 1), (12, .getfield 18, 3), (15, .iload_n 1, 1), (16, .iaload, 1), (17, .goto 4, 3), (20, .iconst 0, 1), (21, .ireturn, 1)]
set_option maxRecDepth 100000 in
theorem dt_Pr_nextOf : q_ck n_Pr_nextOf t_Pr_nextOf = true := by decide +kernel
def c_Pr_nextOf_0 (h1 : qH) (d : Nat) (a0 : Nat) (x1 : Int) (B : qB) (Q : qO → qB → Prop) : Prop := R32 x1 ∧ (x1 < 0 → Q (.inl (some (iv 0))) B) ∧ (x1 ≥ 0 → (x1 ≥ 608 → Q (.inl (some (iv 0))) B) ∧ (x1 < 608 → 0 ≤ x1 ∧ x1 < 608 ∧ Q (.inl (some (iv (B (a0 + 3) x1)))) B))
theorem c_Pr_nextOf_0_ok {h1 : qH} {d : Nat} {a0 : Nat} {x1 : Int} {B : qB} {Q : qO → qB → Prop} (hd : 0 ≤ d) (hS : SH B) (ha0 : ob 5 a0) (w : c_Pr_nextOf_0 h1 d a0 x1 B Q) : qY h1 (d + 1) n_Pr_nextOf 0 [some (.ref a0), some (iv x1)] [] B Q := by
  unfold c_Pr_nextOf_0 at w
  obtain ⟨p1, w⟩ := w
  refine y_ldk (ok := q_isI) (n := 1) (ck_at dt_Pr_nextOf 0 rfl) rfl rfl (fun _ => rfl) rfl rfl ?_
  refine y_ifz (t := 20) (ck_at dt_Pr_nextOf 1 rfl) rfl p1 ?_ ?_
  · intro q; have w := w.1 q
    refine y_op (ck_at dt_Pr_nextOf 10 rfl) rfl (o_const _) ?_
    exact y_retI (ck_at dt_Pr_nextOf 11 rfl) rt_Pr_nextOf w
  · intro q; have w := w.2 q
    refine y_ldk (ok := q_isI) (n := 1) (ck_at dt_Pr_nextOf 2 rfl) rfl rfl (fun _ => rfl) rfl rfl ?_
    refine y_op (ck_at dt_Pr_nextOf 3 rfl) rfl (o_sipush _ (by decide)) ?_
    refine y_icmp (t := 20) (ck_at dt_Pr_nextOf 4 rfl) rfl p1 ⟨by decide, by decide⟩ ?_ ?_
    · intro q; have w := w.1 q
      refine y_op (ck_at dt_Pr_nextOf 10 rfl) rfl (o_const _) ?_
      exact y_retI (ck_at dt_Pr_nextOf 11 rfl) rt_Pr_nextOf w
    · intro q; have w := w.2 q
      obtain ⟨p2, p3, w⟩ := w
      refine y_ldk (ok := q_isA) (n := 0) (ck_at dt_Pr_nextOf 5 rfl) rfl rfl (fun _ => rfl) rfl rfl ?_
      refine y_getF (r := a0 + 3) (K := 5) (j := 2) (a := a0) (ck_at dt_Pr_nextOf 6 rfl) own_Pr_nextOf (cf_at 11 rfl) rfl rfl ⟨(SH.o hS ha0), ?_⟩
      refine y_ldk (ok := q_isI) (n := 1) (ck_at dt_Pr_nextOf 7 rfl) rfl rfl (fun _ => rfl) rfl rfl ?_
      refine y_iald (ck_at dt_Pr_nextOf 8 rfl) ⟨608, (SH.a hS (oa5 ha0 2 (by decide))), (by decide), p2, p3, ?_⟩
      refine y_goto (t := 21) (ck_at dt_Pr_nextOf 9 rfl) rfl ?_
      exact y_retI (ck_at dt_Pr_nextOf 11 rfl) rt_Pr_nextOf w
/-! PatternTrier$Program.otherOf(I)I -/
def t_Pr_otherOf : List (Nat × Instr × Nat) := [(0, .iload_n 1, 1), (1, .ifCond .lt 19, 3), (4, .iload_n 1, 1), (5, .sipush 608, 3), (8, .if_icmp .ge 12, 3), (11, .aload_n 0, 1), (12, .getfield 21, 3), (15, .iload_n 1, 1), (16, .iaload, 1), (17, .goto 4, 3), (20, .iconst 0, 1), (21, .ireturn, 1)]
set_option maxRecDepth 100000 in
theorem dt_Pr_otherOf : q_ck n_Pr_otherOf t_Pr_otherOf = true := by decide +kernel
def c_Pr_otherOf_0 (h1 : qH) (d : Nat) (a0 : Nat) (x1 : Int) (B : qB) (Q : qO → qB → Prop) : Prop := R32 x1 ∧ (x1 < 0 → Q (.inl (some (iv 0))) B) ∧ (x1 ≥ 0 → (x1 ≥ 608 → Q (.inl (some (iv 0))) B) ∧ (x1 < 608 → 0 ≤ x1 ∧ x1 < 608 ∧ Q (.inl (some (iv (B (a0 + 4) x1)))) B))
theorem c_Pr_otherOf_0_ok {h1 : qH} {d : Nat} {a0 : Nat} {x1 : Int} {B : qB} {Q : qO → qB → Prop} (hd : 0 ≤ d) (hS : SH B) (ha0 : ob 5 a0) (w : c_Pr_otherOf_0 h1 d a0 x1 B Q) : qY h1 (d + 1) n_Pr_otherOf 0 [some (.ref a0), some (iv x1)] [] B Q := by
  unfold c_Pr_otherOf_0 at w
  obtain ⟨p1, w⟩ := w
  refine y_ldk (ok := q_isI) (n := 1) (ck_at dt_Pr_otherOf 0 rfl) rfl rfl (fun _ => rfl) rfl rfl ?_
  refine y_ifz (t := 20) (ck_at dt_Pr_otherOf 1 rfl) rfl p1 ?_ ?_
  · intro q; have w := w.1 q
    refine y_op (ck_at dt_Pr_otherOf 10 rfl) rfl (o_const _) ?_
    exact y_retI (ck_at dt_Pr_otherOf 11 rfl) rt_Pr_otherOf w
  · intro q; have w := w.2 q
    refine y_ldk (ok := q_isI) (n := 1) (ck_at dt_Pr_otherOf 2 rfl) rfl rfl (fun _ => rfl) rfl rfl ?_
    refine y_op (ck_at dt_Pr_otherOf 3 rfl) rfl (o_sipush _ (by decide)) ?_
    refine y_icmp (t := 20) (ck_at dt_Pr_otherOf 4 rfl) rfl p1 ⟨by decide, by decide⟩ ?_ ?_
    · intro q; have w := w.1 q
      refine y_op (ck_at dt_Pr_otherOf 10 rfl) rfl (o_const _) ?_
      exact y_retI (ck_at dt_Pr_otherOf 11 rfl) rt_Pr_otherOf w
    · intro q; have w := w.2 q
      obtain ⟨p2, p3, w⟩ := w
      refine y_ldk (ok := q_isA) (n := 0) (ck_at dt_Pr_otherOf 5 rfl) rfl rfl (fun _ => rfl) rfl rfl ?_
      refine y_getF (r := a0 + 4) (K := 5) (j := 3) (a := a0) (ck_at dt_Pr_otherOf 6 rfl) own_Pr_otherOf (cf_at 12 rfl) rfl rfl ⟨(SH.o hS ha0), ?_⟩
      refine y_ldk (ok := q_isI) (n := 1) (ck_at dt_Pr_otherOf 7 rfl) rfl rfl (fun _ => rfl) rfl rfl ?_
      refine y_iald (ck_at dt_Pr_otherOf 8 rfl) ⟨608, (SH.a hS (oa5 ha0 3 (by decide))), (by decide), p2, p3, ?_⟩
      refine y_goto (t := 21) (ck_at dt_Pr_otherOf 9 rfl) rfl ?_
      exact y_retI (ck_at dt_Pr_otherOf 11 rfl) rt_Pr_otherOf w
/-! PatternTrier$Program.depthOf(I)I -/
def t_Pr_depthOf : List (Nat × Instr × Nat) := [(0, .iload_n 1, 1), (1, .ifCond .lt 19, 3), (4, .iload_n 1, 1), (5, .sipush 608, 3), (8, .if_icmp .ge 12, 3), (11, .aload_n 0, 1), (12, .getfield 24, 3), (15, .iload_n 1, 1), (16, .iaload, 1), (17, .goto 4, 3), (20, .iconst 0, 1), (21, .ireturn, 1)]
set_option maxRecDepth 100000 in
theorem dt_Pr_depthOf : q_ck n_Pr_depthOf t_Pr_depthOf = true := by decide +kernel
def c_Pr_depthOf_0 (h1 : qH) (d : Nat) (a0 : Nat) (x1 : Int) (B : qB) (Q : qO → qB → Prop) : Prop := R32 x1 ∧ (x1 < 0 → Q (.inl (some (iv 0))) B) ∧ (x1 ≥ 0 → (x1 ≥ 608 → Q (.inl (some (iv 0))) B) ∧ (x1 < 608 → 0 ≤ x1 ∧ x1 < 608 ∧ Q (.inl (some (iv (B (a0 + 5) x1)))) B))
theorem c_Pr_depthOf_0_ok {h1 : qH} {d : Nat} {a0 : Nat} {x1 : Int} {B : qB} {Q : qO → qB → Prop} (hd : 0 ≤ d) (hS : SH B) (ha0 : ob 5 a0) (w : c_Pr_depthOf_0 h1 d a0 x1 B Q) : qY h1 (d + 1) n_Pr_depthOf 0 [some (.ref a0), some (iv x1)] [] B Q := by
  unfold c_Pr_depthOf_0 at w
  obtain ⟨p1, w⟩ := w
  refine y_ldk (ok := q_isI) (n := 1) (ck_at dt_Pr_depthOf 0 rfl) rfl rfl (fun _ => rfl) rfl rfl ?_
  refine y_ifz (t := 20) (ck_at dt_Pr_depthOf 1 rfl) rfl p1 ?_ ?_
  · intro q; have w := w.1 q
    refine y_op (ck_at dt_Pr_depthOf 10 rfl) rfl (o_const _) ?_
    exact y_retI (ck_at dt_Pr_depthOf 11 rfl) rt_Pr_depthOf w
  · intro q; have w := w.2 q
    refine y_ldk (ok := q_isI) (n := 1) (ck_at dt_Pr_depthOf 2 rfl) rfl rfl (fun _ => rfl) rfl rfl ?_
    refine y_op (ck_at dt_Pr_depthOf 3 rfl) rfl (o_sipush _ (by decide)) ?_
    refine y_icmp (t := 20) (ck_at dt_Pr_depthOf 4 rfl) rfl p1 ⟨by decide, by decide⟩ ?_ ?_
    · intro q; have w := w.1 q
      refine y_op (ck_at dt_Pr_depthOf 10 rfl) rfl (o_const _) ?_
      exact y_retI (ck_at dt_Pr_depthOf 11 rfl) rt_Pr_depthOf w
    · intro q; have w := w.2 q
      obtain ⟨p2, p3, w⟩ := w
      refine y_ldk (ok := q_isA) (n := 0) (ck_at dt_Pr_depthOf 5 rfl) rfl rfl (fun _ => rfl) rfl rfl ?_
      refine y_getF (r := a0 + 5) (K := 5) (j := 4) (a := a0) (ck_at dt_Pr_depthOf 6 rfl) own_Pr_depthOf (cf_at 13 rfl) rfl rfl ⟨(SH.o hS ha0), ?_⟩
      refine y_ldk (ok := q_isI) (n := 1) (ck_at dt_Pr_depthOf 7 rfl) rfl rfl (fun _ => rfl) rfl rfl ?_
      refine y_iald (ck_at dt_Pr_depthOf 8 rfl) ⟨608, (SH.a hS (oa5 ha0 4 (by decide))), (by decide), p2, p3, ?_⟩
      refine y_goto (t := 21) (ck_at dt_Pr_depthOf 9 rfl) rfl ?_
      exact y_retI (ck_at dt_Pr_depthOf 11 rfl) rt_Pr_depthOf w
/-! PatternTrier$Program.slotOf(I)I -/
def t_Pr_slotOf : List (Nat × Instr × Nat) := [(0, .iload_n 1, 1), (1, .ifCond .lt 19, 3), (4, .iload_n 1, 1), (5, .sipush 608, 3), (8, .if_icmp .ge 12, 3), (11, .aload_n 0, 1), (12, .getfield 27, 3), (15, .iload_n 1, 1), (16, .iaload, 1), (17, .goto 4, 3), (20, .iconst 0, 1), (21, .ireturn, 1)]
set_option maxRecDepth 100000 in
theorem dt_Pr_slotOf : q_ck n_Pr_slotOf t_Pr_slotOf = true := by decide +kernel
def c_Pr_slotOf_0 (h1 : qH) (d : Nat) (a0 : Nat) (x1 : Int) (B : qB) (Q : qO → qB → Prop) : Prop := R32 x1 ∧ (x1 < 0 → Q (.inl (some (iv 0))) B) ∧ (x1 ≥ 0 → (x1 ≥ 608 → Q (.inl (some (iv 0))) B) ∧ (x1 < 608 → 0 ≤ x1 ∧ x1 < 608 ∧ Q (.inl (some (iv (B (a0 + 6) x1)))) B))
theorem c_Pr_slotOf_0_ok {h1 : qH} {d : Nat} {a0 : Nat} {x1 : Int} {B : qB} {Q : qO → qB → Prop} (hd : 0 ≤ d) (hS : SH B) (ha0 : ob 5 a0) (w : c_Pr_slotOf_0 h1 d a0 x1 B Q) : qY h1 (d + 1) n_Pr_slotOf 0 [some (.ref a0), some (iv x1)] [] B Q := by
  unfold c_Pr_slotOf_0 at w
  obtain ⟨p1, w⟩ := w
  refine y_ldk (ok := q_isI) (n := 1) (ck_at dt_Pr_slotOf 0 rfl) rfl rfl (fun _ => rfl) rfl rfl ?_
  refine y_ifz (t := 20) (ck_at dt_Pr_slotOf 1 rfl) rfl p1 ?_ ?_
  · intro q; have w := w.1 q
    refine y_op (ck_at dt_Pr_slotOf 10 rfl) rfl (o_const _) ?_
    exact y_retI (ck_at dt_Pr_slotOf 11 rfl) rt_Pr_slotOf w
  · intro q; have w := w.2 q
    refine y_ldk (ok := q_isI) (n := 1) (ck_at dt_Pr_slotOf 2 rfl) rfl rfl (fun _ => rfl) rfl rfl ?_
    refine y_op (ck_at dt_Pr_slotOf 3 rfl) rfl (o_sipush _ (by decide)) ?_
    refine y_icmp (t := 20) (ck_at dt_Pr_slotOf 4 rfl) rfl p1 ⟨by decide, by decide⟩ ?_ ?_
    · intro q; have w := w.1 q
      refine y_op (ck_at dt_Pr_slotOf 10 rfl) rfl (o_const _) ?_
      exact y_retI (ck_at dt_Pr_slotOf 11 rfl) rt_Pr_slotOf w
    · intro q; have w := w.2 q
      obtain ⟨p2, p3, w⟩ := w
      refine y_ldk (ok := q_isA) (n := 0) (ck_at dt_Pr_slotOf 5 rfl) rfl rfl (fun _ => rfl) rfl rfl ?_
      refine y_getF (r := a0 + 6) (K := 5) (j := 5) (a := a0) (ck_at dt_Pr_slotOf 6 rfl) own_Pr_slotOf (cf_at 14 rfl) rfl rfl ⟨(SH.o hS ha0), ?_⟩
      refine y_ldk (ok := q_isI) (n := 1) (ck_at dt_Pr_slotOf 7 rfl) rfl rfl (fun _ => rfl) rfl rfl ?_
      refine y_iald (ck_at dt_Pr_slotOf 8 rfl) ⟨608, (SH.a hS (oa5 ha0 5 (by decide))), (by decide), p2, p3, ?_⟩
      refine y_goto (t := 21) (ck_at dt_Pr_slotOf 9 rfl) rfl ?_
      exact y_retI (ck_at dt_Pr_slotOf 11 rfl) rt_Pr_slotOf w
/-! PatternTrier$Pile.size()I -/
def t_Pi_size : List (Nat × Instr × Nat) := [(0, .aload_n 0, 1), (1, .getfield 13, 3), (4, .ireturn, 1)]
set_option maxRecDepth 100000 in
theorem dt_Pi_size : q_ck n_Pi_size t_Pi_size = true := by decide +kernel
def c_Pi_size_0 (h1 : qH) (d : Nat) (B : qB) (Q : qO → qB → Prop) : Prop := Q (.inl (some (iv (B 103 1)))) B
theorem c_Pi_size_0_ok {h1 : qH} {d : Nat} {B : qB} {Q : qO → qB → Prop} (hd : 0 ≤ d) (hS : SH B) (w : c_Pi_size_0 h1 d B Q) : qY h1 (d + 1) n_Pi_size 0 [some (.ref 103)] [] B Q := by
  unfold c_Pi_size_0 at w
  refine y_ldk (ok := q_isA) (n := 0) (ck_at dt_Pi_size 0 rfl) rfl rfl (fun _ => rfl) rfl rfl ?_
  refine y_getI (K := 4) (j := 1) (a := 103) (ck_at dt_Pi_size 1 rfl) own_Pi_size (cf_at 8 rfl) rfl rfl rfl ⟨(SH.o hS ⟨by decide, by decide, by decide⟩), ?_⟩
  exact y_retI (ck_at dt_Pi_size 2 rfl) rt_Pi_size w
/-! PatternTrier$Pile.clear()V -/
def t_Pi_clear : List (Nat × Instr × Nat) := [(0, .aload_n 0, 1), (1, .iconst 0, 1), (2, .putfield 13, 3), (5, .return_, 1)]
set_option maxRecDepth 100000 in
theorem dt_Pi_clear : q_ck n_Pi_clear t_Pi_clear = true := by decide +kernel
def c_Pi_clear_0 (h1 : qH) (d : Nat) (B : qB) (Q : qO → qB → Prop) : Prop := Q (.inl none) (u2 B 103 1 0)
theorem c_Pi_clear_0_ok {h1 : qH} {d : Nat} {B : qB} {Q : qO → qB → Prop} (hd : 0 ≤ d) (hS : SH B) (w : c_Pi_clear_0 h1 d B Q) : qY h1 (d + 1) n_Pi_clear 0 [some (.ref 103)] [] B Q := by
  unfold c_Pi_clear_0 at w
  refine y_ldk (ok := q_isA) (n := 0) (ck_at dt_Pi_clear 0 rfl) rfl rfl (fun _ => rfl) rfl rfl ?_
  refine y_op (ck_at dt_Pi_clear 1 rfl) rfl (o_const _) ?_
  refine y_putI (K := 4) (j := 1) (a := 103) (ck_at dt_Pi_clear 2 rfl) own_Pi_clear (cf_at 8 rfl) rfl rfl rfl rfl rfl ⟨⟨SH.o hS ⟨by decide, by decide, by decide⟩, by decide⟩, ?_⟩
  have hS1 := SH_u2 (b := 103) (x := 1) (z := 0) hS (by decide)
  exact y_ret0 (ck_at dt_Pi_clear 3 rfl) rt_Pi_clear w
/-! PatternTrier$Pile.pack(IIII)I -/
def t_Pi_pack : List (Nat × Instr × Nat) := [(0, .iload_n 0, 1), (1, .bipush 24, 2), (3, .ishl, 1), (4, .iload_n 1, 1), (5, .bipush 14, 2), (7, .ishl, 1), (8, .ior, 1), (9, .iload_n 2, 1), (10, .bipush 10, 2), (12, .ishl, 1), (13, .ior, 1), (14, .iload_n 3, 1), (15, .ior, 1), (16, .ireturn, 1)]
set_option maxRecDepth 100000 in
theorem dt_Pi_pack : q_ck n_Pi_pack t_Pi_pack = true := by decide +kernel
def c_Pi_pack_0 (h1 : qH) (d : Nat) (x0 : Int) (x1 : Int) (x2 : Int) (x3 : Int) (B : qB) (Q : qO → qB → Prop) : Prop := Q (.inl (some (iv (iOr (iOr (iOr (iShl x0 24) (iShl x1 14)) (iShl x2 10)) x3)))) B
theorem c_Pi_pack_0_ok {h1 : qH} {d : Nat} {x0 : Int} {x1 : Int} {x2 : Int} {x3 : Int} {B : qB} {Q : qO → qB → Prop} (hd : 0 ≤ d) (hS : SH B) (w : c_Pi_pack_0 h1 d x0 x1 x2 x3 B Q) : qY h1 (d + 1) n_Pi_pack 0 [some (iv x0), some (iv x1), some (iv x2), some (iv x3)] [] B Q := by
  unfold c_Pi_pack_0 at w
  refine y_ldk (ok := q_isI) (n := 0) (ck_at dt_Pi_pack 0 rfl) rfl rfl (fun _ => rfl) rfl rfl ?_
  refine y_op (ck_at dt_Pi_pack 1 rfl) rfl (o_bipush _ (by decide)) ?_
  refine y_op (ck_at dt_Pi_pack 2 rfl) rfl o_ishl ?_
  refine y_ldk (ok := q_isI) (n := 1) (ck_at dt_Pi_pack 3 rfl) rfl rfl (fun _ => rfl) rfl rfl ?_
  refine y_op (ck_at dt_Pi_pack 4 rfl) rfl (o_bipush _ (by decide)) ?_
  refine y_op (ck_at dt_Pi_pack 5 rfl) rfl o_ishl ?_
  refine y_op (ck_at dt_Pi_pack 6 rfl) rfl o_ior ?_
  refine y_ldk (ok := q_isI) (n := 2) (ck_at dt_Pi_pack 7 rfl) rfl rfl (fun _ => rfl) rfl rfl ?_
  refine y_op (ck_at dt_Pi_pack 8 rfl) rfl (o_bipush _ (by decide)) ?_
  refine y_op (ck_at dt_Pi_pack 9 rfl) rfl o_ishl ?_
  refine y_op (ck_at dt_Pi_pack 10 rfl) rfl o_ior ?_
  refine y_ldk (ok := q_isI) (n := 3) (ck_at dt_Pi_pack 11 rfl) rfl rfl (fun _ => rfl) rfl rfl ?_
  refine y_op (ck_at dt_Pi_pack 12 rfl) rfl o_ior ?_
  exact y_retI (ck_at dt_Pi_pack 13 rfl) rt_Pi_pack w
/-! PatternTrier$Pile.kindOf(I)I -/
def t_Pi_kindOf : List (Nat × Instr × Nat) := [(0, .iload_n 0, 1), (1, .bipush 24, 2), (3, .iushr, 1), (4, .ireturn, 1)]
set_option maxRecDepth 100000 in
theorem dt_Pi_kindOf : q_ck n_Pi_kindOf t_Pi_kindOf = true := by decide +kernel
def c_Pi_kindOf_0 (h1 : qH) (d : Nat) (x0 : Int) (B : qB) (Q : qO → qB → Prop) : Prop := Q (.inl (some (iv (iUshr x0 24)))) B
theorem c_Pi_kindOf_0_ok {h1 : qH} {d : Nat} {x0 : Int} {B : qB} {Q : qO → qB → Prop} (hd : 0 ≤ d) (hS : SH B) (w : c_Pi_kindOf_0 h1 d x0 B Q) : qY h1 (d + 1) n_Pi_kindOf 0 [some (iv x0)] [] B Q := by
  unfold c_Pi_kindOf_0 at w
  refine y_ldk (ok := q_isI) (n := 0) (ck_at dt_Pi_kindOf 0 rfl) rfl rfl (fun _ => rfl) rfl rfl ?_
  refine y_op (ck_at dt_Pi_kindOf 1 rfl) rfl (o_bipush _ (by decide)) ?_
  refine y_op (ck_at dt_Pi_kindOf 2 rfl) rfl o_iushr ?_
  exact y_retI (ck_at dt_Pi_kindOf 3 rfl) rt_Pi_kindOf w
/-! PatternTrier$Pile.stepOf(I)I -/
def t_Pi_stepOf : List (Nat × Instr × Nat) := [(0, .iload_n 0, 1), (1, .bipush 14, 2), (3, .iushr, 1), (4, .sipush 1023, 3), (7, .iand, 1), (8, .ireturn, 1)]
set_option maxRecDepth 100000 in
theorem dt_Pi_stepOf : q_ck n_Pi_stepOf t_Pi_stepOf = true := by decide +kernel
def c_Pi_stepOf_0 (h1 : qH) (d : Nat) (x0 : Int) (B : qB) (Q : qO → qB → Prop) : Prop := Q (.inl (some (iv (iAnd (iUshr x0 14) 1023)))) B
theorem c_Pi_stepOf_0_ok {h1 : qH} {d : Nat} {x0 : Int} {B : qB} {Q : qO → qB → Prop} (hd : 0 ≤ d) (hS : SH B) (w : c_Pi_stepOf_0 h1 d x0 B Q) : qY h1 (d + 1) n_Pi_stepOf 0 [some (iv x0)] [] B Q := by
  unfold c_Pi_stepOf_0 at w
  refine y_ldk (ok := q_isI) (n := 0) (ck_at dt_Pi_stepOf 0 rfl) rfl rfl (fun _ => rfl) rfl rfl ?_
  refine y_op (ck_at dt_Pi_stepOf 1 rfl) rfl (o_bipush _ (by decide)) ?_
  refine y_op (ck_at dt_Pi_stepOf 2 rfl) rfl o_iushr ?_
  refine y_op (ck_at dt_Pi_stepOf 3 rfl) rfl (o_sipush _ (by decide)) ?_
  refine y_op (ck_at dt_Pi_stepOf 4 rfl) rfl o_iand ?_
  exact y_retI (ck_at dt_Pi_stepOf 5 rfl) rt_Pi_stepOf w
/-! PatternTrier$Pile.takenOf(I)I -/
def t_Pi_takenOf : List (Nat × Instr × Nat) := [(0, .iload_n 0, 1), (1, .bipush 10, 2), (3, .iushr, 1), (4, .bipush 15, 2), (6, .iand, 1), (7, .ireturn, 1)]
set_option maxRecDepth 100000 in
theorem dt_Pi_takenOf : q_ck n_Pi_takenOf t_Pi_takenOf = true := by decide +kernel
def c_Pi_takenOf_0 (h1 : qH) (d : Nat) (x0 : Int) (B : qB) (Q : qO → qB → Prop) : Prop := Q (.inl (some (iv (iAnd (iUshr x0 10) 15)))) B
theorem c_Pi_takenOf_0_ok {h1 : qH} {d : Nat} {x0 : Int} {B : qB} {Q : qO → qB → Prop} (hd : 0 ≤ d) (hS : SH B) (w : c_Pi_takenOf_0 h1 d x0 B Q) : qY h1 (d + 1) n_Pi_takenOf 0 [some (iv x0)] [] B Q := by
  unfold c_Pi_takenOf_0 at w
  refine y_ldk (ok := q_isI) (n := 0) (ck_at dt_Pi_takenOf 0 rfl) rfl rfl (fun _ => rfl) rfl rfl ?_
  refine y_op (ck_at dt_Pi_takenOf 1 rfl) rfl (o_bipush _ (by decide)) ?_
  refine y_op (ck_at dt_Pi_takenOf 2 rfl) rfl o_iushr ?_
  refine y_op (ck_at dt_Pi_takenOf 3 rfl) rfl (o_bipush _ (by decide)) ?_
  refine y_op (ck_at dt_Pi_takenOf 4 rfl) rfl o_iand ?_
  exact y_retI (ck_at dt_Pi_takenOf 5 rfl) rt_Pi_takenOf w
/-! PatternTrier$Pile.placeOf(I)I -/
def t_Pi_placeOf : List (Nat × Instr × Nat) := [(0, .iload_n 0, 1), (1, .sipush 1023, 3), (4, .iand, 1), (5, .ireturn, 1)]
set_option maxRecDepth 100000 in
theorem dt_Pi_placeOf : q_ck n_Pi_placeOf t_Pi_placeOf = true := by decide +kernel
def c_Pi_placeOf_0 (h1 : qH) (d : Nat) (x0 : Int) (B : qB) (Q : qO → qB → Prop) : Prop := Q (.inl (some (iv (iAnd x0 1023)))) B
theorem c_Pi_placeOf_0_ok {h1 : qH} {d : Nat} {x0 : Int} {B : qB} {Q : qO → qB → Prop} (hd : 0 ≤ d) (hS : SH B) (w : c_Pi_placeOf_0 h1 d x0 B Q) : qY h1 (d + 1) n_Pi_placeOf 0 [some (iv x0)] [] B Q := by
  unfold c_Pi_placeOf_0 at w
  refine y_ldk (ok := q_isI) (n := 0) (ck_at dt_Pi_placeOf 0 rfl) rfl rfl (fun _ => rfl) rfl rfl ?_
  refine y_op (ck_at dt_Pi_placeOf 1 rfl) rfl (o_sipush _ (by decide)) ?_
  refine y_op (ck_at dt_Pi_placeOf 2 rfl) rfl o_iand ?_
  exact y_retI (ck_at dt_Pi_placeOf 3 rfl) rt_Pi_placeOf w
/-! PatternTrier$Found.clear()V -/
def t_Fo_clear : List (Nat × Instr × Nat) := [(0, .aload_n 0, 1), (1, .iconst 0, 1), (2, .putfield 15, 3), (5, .return_, 1)]
set_option maxRecDepth 100000 in
theorem dt_Fo_clear : q_ck n_Fo_clear t_Fo_clear = true := by decide +kernel
def c_Fo_clear_0 (h1 : qH) (d : Nat) (a0 : Nat) (B : qB) (Q : qO → qB → Prop) : Prop := Q (.inl none) (u2 B a0 1 0)
theorem c_Fo_clear_0_ok {h1 : qH} {d : Nat} {a0 : Nat} {B : qB} {Q : qO → qB → Prop} (hd : 0 ≤ d) (hS : SH B) (ha0 : ob 3 a0) (w : c_Fo_clear_0 h1 d a0 B Q) : qY h1 (d + 1) n_Fo_clear 0 [some (.ref a0)] [] B Q := by
  unfold c_Fo_clear_0 at w
  refine y_ldk (ok := q_isA) (n := 0) (ck_at dt_Fo_clear 0 rfl) rfl rfl (fun _ => rfl) rfl rfl ?_
  refine y_op (ck_at dt_Fo_clear 1 rfl) rfl (o_const _) ?_
  refine y_putI (K := 3) (j := 1) (a := a0) (ck_at dt_Fo_clear 2 rfl) own_Fo_clear (cf_at 6 rfl) rfl rfl rfl rfl rfl ⟨⟨SH.o hS ha0, ob.lt ha0⟩, ?_⟩
  have hS1 := SH_u2 (b := a0) (x := 1) (z := 0) hS (by decide)
  exact y_ret0 (ck_at dt_Fo_clear 3 rfl) rt_Fo_clear w
/-! PatternTrier$Found.amount()I -/
def t_Fo_amount : List (Nat × Instr × Nat) := [(0, .aload_n 0, 1), (1, .getfield 15, 3), (4, .ireturn, 1)]
set_option maxRecDepth 100000 in
theorem dt_Fo_amount : q_ck n_Fo_amount t_Fo_amount = true := by decide +kernel
def c_Fo_amount_0 (h1 : qH) (d : Nat) (a0 : Nat) (B : qB) (Q : qO → qB → Prop) : Prop := Q (.inl (some (iv (B a0 1)))) B
theorem c_Fo_amount_0_ok {h1 : qH} {d : Nat} {a0 : Nat} {B : qB} {Q : qO → qB → Prop} (hd : 0 ≤ d) (hS : SH B) (ha0 : ob 3 a0) (w : c_Fo_amount_0 h1 d a0 B Q) : qY h1 (d + 1) n_Fo_amount 0 [some (.ref a0)] [] B Q := by
  unfold c_Fo_amount_0 at w
  refine y_ldk (ok := q_isA) (n := 0) (ck_at dt_Fo_amount 0 rfl) rfl rfl (fun _ => rfl) rfl rfl ?_
  refine y_getI (K := 3) (j := 1) (a := a0) (ck_at dt_Fo_amount 1 rfl) own_Fo_amount (cf_at 6 rfl) rfl rfl rfl ⟨(SH.o hS ha0), ?_⟩
  exact y_retI (ck_at dt_Fo_amount 2 rfl) rt_Fo_amount w
/-! PatternTrier$Walker.mark(I)I -/
def t_Wa_mark : List (Nat × Instr × Nat) := [(0, .iload_n 1, 1), (1, .ifCond .lt 21, 3), (4, .iload_n 1, 1), (5, .aload_n 0, 1), (6, .getfield 25, 3), (9, .arraylength, 1), (10, .if_icmp .ge 12, 3), (13, .aload_n 0, 1), (14, .getfield 25, 3), (17, .iload_n 1, 1), (18, .iaload, 1), (19, .goto 4, 3), (22, .iconst (-1), 1), (23, .ireturn, 1)]
set_option maxRecDepth 100000 in
theorem dt_Wa_mark : q_ck n_Wa_mark t_Wa_mark = true := by decide +kernel
def c_Wa_mark_0 (h1 : qH) (d : Nat) (x1 : Int) (B : qB) (Q : qO → qB → Prop) : Prop := R32 x1 ∧ (x1 < 0 → Q (.inl (some (iv (-1)))) B) ∧ (x1 ≥ 0 → (x1 ≥ 20 → Q (.inl (some (iv (-1)))) B) ∧ (x1 < 20 → 0 ≤ x1 ∧ x1 < 20 ∧ Q (.inl (some (iv (B 107 x1)))) B))
theorem c_Wa_mark_0_ok {h1 : qH} {d : Nat} {x1 : Int} {B : qB} {Q : qO → qB → Prop} (hd : 0 ≤ d) (hS : SH B) (w : c_Wa_mark_0 h1 d x1 B Q) : qY h1 (d + 1) n_Wa_mark 0 [some (.ref 102), some (iv x1)] [] B Q := by
  unfold c_Wa_mark_0 at w
  obtain ⟨p1, w⟩ := w
  refine y_ldk (ok := q_isI) (n := 1) (ck_at dt_Wa_mark 0 rfl) rfl rfl (fun _ => rfl) rfl rfl ?_
  refine y_ifz (t := 22) (ck_at dt_Wa_mark 1 rfl) rfl p1 ?_ ?_
  · intro q; have w := w.1 q
    refine y_op (ck_at dt_Wa_mark 12 rfl) rfl (o_const _) ?_
    exact y_retI (ck_at dt_Wa_mark 13 rfl) rt_Wa_mark w
  · intro q; have w := w.2 q
    refine y_ldk (ok := q_isI) (n := 1) (ck_at dt_Wa_mark 2 rfl) rfl rfl (fun _ => rfl) rfl rfl ?_
    refine y_ldk (ok := q_isA) (n := 0) (ck_at dt_Wa_mark 3 rfl) rfl rfl (fun _ => rfl) rfl rfl ?_
    refine y_getF (r := 107) (K := 9) (j := 2) (a := 102) (ck_at dt_Wa_mark 4 rfl) own_Wa_mark (cf_at 43 rfl) rfl rfl ⟨(SH.o hS ⟨by decide, by decide, by decide⟩), ?_⟩
    refine y_alen (ck_at dt_Wa_mark 5 rfl) ⟨1, 20, (SH.a (t := 1) (a := 107) (n := 20) hS ⟨by decide, by decide, by decide, by decide⟩), (by decide), ?_⟩
    refine y_icmp (t := 22) (ck_at dt_Wa_mark 6 rfl) rfl p1 ⟨by decide, by decide⟩ ?_ ?_
    · intro q; have w := w.1 q
      refine y_op (ck_at dt_Wa_mark 12 rfl) rfl (o_const _) ?_
      exact y_retI (ck_at dt_Wa_mark 13 rfl) rt_Wa_mark w
    · intro q; have w := w.2 q
      obtain ⟨p2, p3, w⟩ := w
      refine y_ldk (ok := q_isA) (n := 0) (ck_at dt_Wa_mark 7 rfl) rfl rfl (fun _ => rfl) rfl rfl ?_
      refine y_getF (r := 107) (K := 9) (j := 2) (a := 102) (ck_at dt_Wa_mark 8 rfl) own_Wa_mark (cf_at 43 rfl) rfl rfl ⟨(SH.o hS ⟨by decide, by decide, by decide⟩), ?_⟩
      refine y_ldk (ok := q_isI) (n := 1) (ck_at dt_Wa_mark 9 rfl) rfl rfl (fun _ => rfl) rfl rfl ?_
      refine y_iald (ck_at dt_Wa_mark 10 rfl) ⟨20, (SH.a (t := 1) (a := 107) (n := 20) hS ⟨by decide, by decide, by decide, by decide⟩), (by decide), p2, p3, ?_⟩
      refine y_goto (t := 23) (ck_at dt_Wa_mark 11 rfl) rfl ?_
      exact y_retI (ck_at dt_Wa_mark 13 rfl) rt_Wa_mark w
