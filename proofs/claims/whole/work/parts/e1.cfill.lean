/-! java/util/Arrays.fill([II)V -/
def t_Ar_fill_AIIV : List (Nat × Instr × Nat) := [(0, .iconst 0, 1), (1, .istore_n 2, 1), (2, .aload_n 0, 1), (3, .arraylength, 1), (4, .istore_n 3, 1), (5, .iload_n 2, 1), (6, .iload_n 3, 1), (7, .if_icmp .ge 13, 3), (10, .aload_n 0, 1), (11, .iload_n 2, 1), (12, .iload_n 1, 1), (13, .iastore, 1), (14, .iinc 2 1, 3), (17, .goto (-12), 3), (20, .return_, 1)]
set_option maxRecDepth 100000 in
theorem dt_Ar_fill_AIIV : q_ck n_Ar_fill_AIIV t_Ar_fill_AIIV = true := by decide +kernel
def c_Ar_fill_AIIV_5 (h1 : qH) (d : Nat) (a0 : Nat) (n0 : Int) (x1 : Int) (x2 : Int) (x3 : Int) (B : qB) (Q : qO → qB → Prop) : Prop := R32 x2 ∧ R32 x3 ∧ (x2 ≥ x3 → Q (.inl none) B) ∧ (x2 < x3 → 0 ≤ x2 ∧ x2 < n0 ∧ qY h1 (d + 1) n_Ar_fill_AIIV 5 [some (.ref a0), some (iv x1), some (iv (x2 + 1)), some (iv x3)] [] (u2 B a0 x2 x1) Q)
theorem c_Ar_fill_AIIV_5_ok {h1 : qH} {d : Nat} {a0 : Nat} {n0 : Int} {x1 : Int} {x2 : Int} {x3 : Int} {B : qB} {Q : qO → qB → Prop} (hd : 0 ≤ d) (hS : SH B) (hA0 : isA B 1 a0 n0) (hA0n : n0 ≤ 67108864) (hA0l : a0 < 1000000000) (w : c_Ar_fill_AIIV_5 h1 d a0 n0 x1 x2 x3 B Q) : qY h1 (d + 1) n_Ar_fill_AIIV 5 [some (.ref a0), some (iv x1), some (iv x2), some (iv x3)] [] B Q := by
  unfold c_Ar_fill_AIIV_5 at w
  obtain ⟨p1, p2, w⟩ := w
  refine y_ldk (ok := q_isI) (n := 2) (ck_at dt_Ar_fill_AIIV 5 rfl) rfl rfl (fun _ => rfl) rfl rfl ?_
  refine y_ldk (ok := q_isI) (n := 3) (ck_at dt_Ar_fill_AIIV 6 rfl) rfl rfl (fun _ => rfl) rfl rfl ?_
  refine y_icmp (t := 20) (ck_at dt_Ar_fill_AIIV 7 rfl) rfl p1 p2 ?_ ?_
  · intro q; have w := w.1 q
    exact y_ret0 (ck_at dt_Ar_fill_AIIV 14 rfl) rt_Ar_fill_AIIV w
  · intro q; have w := w.2 q
    obtain ⟨p3, p4, w⟩ := w
    refine y_ldk (ok := q_isA) (n := 0) (ck_at dt_Ar_fill_AIIV 8 rfl) rfl rfl (fun _ => rfl) rfl rfl ?_
    refine y_ldk (ok := q_isI) (n := 2) (ck_at dt_Ar_fill_AIIV 9 rfl) rfl rfl (fun _ => rfl) rfl rfl ?_
    refine y_ldk (ok := q_isI) (n := 1) (ck_at dt_Ar_fill_AIIV 10 rfl) rfl rfl (fun _ => rfl) rfl rfl ?_
    refine y_iast (ck_at dt_Ar_fill_AIIV 11 rfl) ⟨n0, hA0, hA0n, p3, p4, hA0l, ?_⟩
    have hS5 := SH_u2 (b := a0) (x := x2) (z := x1) hS p3
    refine y_iinc (n := 2) (L' := [some (.ref a0), some (iv x1), some (iv (x2 + 1)), some (iv x3)]) (ck_at dt_Ar_fill_AIIV 12 rfl) rfl nl_Ar_fill_AIIV (by decide) rfl rfl ?_
    refine y_goto (t := 5) (ck_at dt_Ar_fill_AIIV 13 rfl) rfl ?_
    exact y_wk w ⟨rfl, ⟨rfl, ⟨rfl, ⟨rfl, trivial⟩⟩⟩⟩
def c_Ar_fill_AIIV_0 (h1 : qH) (d : Nat) (a0 : Nat) (n0 : Int) (x1 : Int) (B : qB) (Q : qO → qB → Prop) : Prop := qY h1 (d + 1) n_Ar_fill_AIIV 5 [some (.ref a0), some (iv x1), some (iv 0), some (iv n0)] [] B Q
theorem c_Ar_fill_AIIV_0_ok {h1 : qH} {d : Nat} {a0 : Nat} {n0 : Int} {x1 : Int} {B : qB} {Q : qO → qB → Prop} (hd : 0 ≤ d) (hS : SH B) (hA0 : isA B 1 a0 n0) (hA0n : n0 ≤ 67108864) (hA0l : a0 < 1000000000) (w : c_Ar_fill_AIIV_0 h1 d a0 n0 x1 B Q) : qY h1 (d + 1) n_Ar_fill_AIIV 0 [some (.ref a0), some (iv x1), none, none] [] B Q := by
  unfold c_Ar_fill_AIIV_0 at w
  refine y_op (ck_at dt_Ar_fill_AIIV 0 rfl) rfl (o_const _) ?_
  refine y_st1 (ok := q_isI) (n := 2) (L' := [some (.ref a0), some (iv x1), some (iv 0), none]) (ck_at dt_Ar_fill_AIIV 1 rfl) rfl (fun _ => rfl) (fun _ _ => rfl) rfl nl_Ar_fill_AIIV (by decide) rfl rfl ?_
  refine y_ldk (ok := q_isA) (n := 0) (ck_at dt_Ar_fill_AIIV 2 rfl) rfl rfl (fun _ => rfl) rfl rfl ?_
  refine y_alen (ck_at dt_Ar_fill_AIIV 3 rfl) ⟨1, n0, hA0, hA0n, ?_⟩
  refine y_st1 (ok := q_isI) (n := 3) (L' := [some (.ref a0), some (iv x1), some (iv 0), some (iv n0)]) (ck_at dt_Ar_fill_AIIV 4 rfl) rfl (fun _ => rfl) (fun _ _ => rfl) rfl nl_Ar_fill_AIIV (by decide) rfl rfl ?_
  exact y_wk w ⟨rfl, ⟨rfl, ⟨rfl, ⟨rfl, trivial⟩⟩⟩⟩
/-! java/util/Arrays.fill([IIII)V -/
def t_Ar_fill_AIIIIV : List (Nat × Instr × Nat) := [(0, .aload_n 0, 1), (1, .arraylength, 1), (2, .iload_n 1, 1), (3, .iload_n 2, 1), (4, .invokestatic 13, 3), (7, .iload_n 1, 1), (8, .istore 4, 2), (10, .iload 4, 2), (12, .iload_n 2, 1), (13, .if_icmp .ge 14, 3), (16, .aload_n 0, 1), (17, .iload 4, 2), (19, .iload_n 3, 1), (20, .iastore, 1), (21, .iinc 4 1, 3), (24, .goto (-14), 3), (27, .return_, 1)]
set_option maxRecDepth 100000 in
theorem dt_Ar_fill_AIIIIV : q_ck n_Ar_fill_AIIIIV t_Ar_fill_AIIIIV = true := by decide +kernel
def c_Ar_fill_AIIIIV_10 (h1 : qH) (d : Nat) (a0 : Nat) (n0 : Int) (x2 : Int) (x3 : Int) (x4 : Int) (B : qB) (Q : qO → qB → Prop) : Prop := R32 x4 ∧ R32 x2 ∧ (x4 ≥ x2 → Q (.inl none) B) ∧ (x4 < x2 → 0 ≤ x4 ∧ x4 < n0 ∧ qY h1 (d + 1) n_Ar_fill_AIIIIV 10 [some (.ref a0), none, some (iv x2), some (iv x3), some (iv (x4 + 1))] [] (u2 B a0 x4 x3) Q)
theorem c_Ar_fill_AIIIIV_10_ok {h1 : qH} {d : Nat} {a0 : Nat} {n0 : Int} {x2 : Int} {x3 : Int} {x4 : Int} {B : qB} {Q : qO → qB → Prop} (hd : 0 ≤ d) (hS : SH B) (hA0 : isA B 1 a0 n0) (hA0n : n0 ≤ 67108864) (hA0l : a0 < 1000000000) (w : c_Ar_fill_AIIIIV_10 h1 d a0 n0 x2 x3 x4 B Q) : qY h1 (d + 1) n_Ar_fill_AIIIIV 10 [some (.ref a0), none, some (iv x2), some (iv x3), some (iv x4)] [] B Q := by
  unfold c_Ar_fill_AIIIIV_10 at w
  obtain ⟨p1, p2, w⟩ := w
  refine y_ldk (ok := q_isI) (n := 4) (ck_at dt_Ar_fill_AIIIIV 7 rfl) rfl rfl (fun _ => rfl) rfl rfl ?_
  refine y_ldk (ok := q_isI) (n := 2) (ck_at dt_Ar_fill_AIIIIV 8 rfl) rfl rfl (fun _ => rfl) rfl rfl ?_
  refine y_icmp (t := 27) (ck_at dt_Ar_fill_AIIIIV 9 rfl) rfl p1 p2 ?_ ?_
  · intro q; have w := w.1 q
    exact y_ret0 (ck_at dt_Ar_fill_AIIIIV 16 rfl) rt_Ar_fill_AIIIIV w
  · intro q; have w := w.2 q
    obtain ⟨p3, p4, w⟩ := w
    refine y_ldk (ok := q_isA) (n := 0) (ck_at dt_Ar_fill_AIIIIV 10 rfl) rfl rfl (fun _ => rfl) rfl rfl ?_
    refine y_ldk (ok := q_isI) (n := 4) (ck_at dt_Ar_fill_AIIIIV 11 rfl) rfl rfl (fun _ => rfl) rfl rfl ?_
    refine y_ldk (ok := q_isI) (n := 3) (ck_at dt_Ar_fill_AIIIIV 12 rfl) rfl rfl (fun _ => rfl) rfl rfl ?_
    refine y_iast (ck_at dt_Ar_fill_AIIIIV 13 rfl) ⟨n0, hA0, hA0n, p3, p4, hA0l, ?_⟩
    have hS5 := SH_u2 (b := a0) (x := x4) (z := x3) hS p3
    refine y_iinc (n := 4) (L' := [some (.ref a0), none, some (iv x2), some (iv x3), some (iv (x4 + 1))]) (ck_at dt_Ar_fill_AIIIIV 14 rfl) rfl nl_Ar_fill_AIIIIV (by decide) rfl rfl ?_
    refine y_goto (t := 10) (ck_at dt_Ar_fill_AIIIIV 15 rfl) rfl ?_
    exact y_wk w ⟨rfl, ⟨rfl, ⟨rfl, ⟨rfl, trivial⟩⟩⟩⟩
def c_Ar_fill_AIIIIV_7 (h1 : qH) (d : Nat) (a0 : Nat) (n0 : Int) (x1 : Int) (x2 : Int) (x3 : Int) (B : qB) (Q : qO → qB → Prop) : Prop := qY h1 (d + 1) n_Ar_fill_AIIIIV 10 [some (.ref a0), none, some (iv x2), some (iv x3), some (iv x1)] [] B Q
theorem c_Ar_fill_AIIIIV_7_ok {h1 : qH} {d : Nat} {a0 : Nat} {n0 : Int} {x1 : Int} {x2 : Int} {x3 : Int} {B : qB} {Q : qO → qB → Prop} (hd : 0 ≤ d) (hS : SH B) (hA0 : isA B 1 a0 n0) (hA0n : n0 ≤ 67108864) (hA0l : a0 < 1000000000) (w : c_Ar_fill_AIIIIV_7 h1 d a0 n0 x1 x2 x3 B Q) : qY h1 (d + 1) n_Ar_fill_AIIIIV 7 [some (.ref a0), some (iv x1), some (iv x2), some (iv x3), none] [] B Q := by
  unfold c_Ar_fill_AIIIIV_7 at w
  refine y_ldk (ok := q_isI) (n := 1) (ck_at dt_Ar_fill_AIIIIV 5 rfl) rfl rfl (fun _ => rfl) rfl rfl ?_
  refine y_st1 (ok := q_isI) (n := 4) (L' := [some (.ref a0), some (iv x1), some (iv x2), some (iv x3), some (iv x1)]) (ck_at dt_Ar_fill_AIIIIV 6 rfl) rfl (fun _ => rfl) (fun _ _ => rfl) rfl nl_Ar_fill_AIIIIV (by decide) rfl rfl ?_
  exact y_wk w ⟨rfl, ⟨rfl, ⟨rfl, ⟨rfl, trivial⟩⟩⟩⟩
def c_Ar_fill_AIIIIV_0 (h1 : qH) (d : Nat) (a0 : Nat) (n0 : Int) (x1 : Int) (x2 : Int) (x3 : Int) (B : qB) (Q : qO → qB → Prop) : Prop := qY h1 d n_Ar_rangeCheck 0 [some (iv n0), some (iv x1), some (iv x2)] [] B (fun o B' => o = .inl none ∧ SH B' ∧ isA B' 1 a0 n0 ∧ c_Ar_fill_AIIIIV_7 h1 d a0 n0 x1 x2 x3 B' Q)
theorem c_Ar_fill_AIIIIV_0_ok {h1 : qH} {d : Nat} {a0 : Nat} {n0 : Int} {x1 : Int} {x2 : Int} {x3 : Int} {B : qB} {Q : qO → qB → Prop} (hd : 0 ≤ d) (hS : SH B) (hA0 : isA B 1 a0 n0) (hA0n : n0 ≤ 67108864) (hA0l : a0 < 1000000000) (w : c_Ar_fill_AIIIIV_0 h1 d a0 n0 x1 x2 x3 B Q) : qY h1 (d + 1) n_Ar_fill_AIIIIV 0 [some (.ref a0), some (iv x1), some (iv x2), some (iv x3), none] [] B Q := by
  unfold c_Ar_fill_AIIIIV_0 at w
  refine y_ldk (ok := q_isA) (n := 0) (ck_at dt_Ar_fill_AIIIIV 0 rfl) rfl rfl (fun _ => rfl) rfl rfl ?_
  refine y_alen (ck_at dt_Ar_fill_AIIIIV 1 rfl) ⟨1, n0, hA0, hA0n, ?_⟩
  refine y_ldk (ok := q_isI) (n := 1) (ck_at dt_Ar_fill_AIIIIV 2 rfl) rfl rfl (fun _ => rfl) rfl rfl ?_
  refine y_ldk (ok := q_isI) (n := 2) (ck_at dt_Ar_fill_AIIIIV 3 rfl) rfl rfl (fun _ => rfl) rfl rfl ?_
  refine y_stat (k' := n_Ar_rangeCheck) (n := 0) (as := [iv n0, iv x1, iv x2]) (r := []) (ck_at dt_Ar_fill_AIIIIV 4 rfl) own_Ar_fill_AIIIIV (cm_at 164 rfl) (cs_at 35 rfl) vk_Ar_rangeCheck rfl nl_Ar_rangeCheck rfl rfl rfl rfl ?_
  exact w.mono (Nat.le_refl _) (fun o B' ⟨ho, hS', u0, w⟩ => Or.inl ⟨none, ho, y_wk (c_Ar_fill_AIIIIV_7_ok (by omega) hS' u0 hA0n hA0l w) ⟨rfl, ⟨rfl, ⟨rfl, ⟨rfl, trivial⟩⟩⟩⟩⟩)
/-! java/util/Arrays.rangeCheck(III)V -/
def t_Ar_rangeCheck : List (Nat × Instr × Nat) := [(0, .iload_n 1, 1), (1, .iload_n 2, 1), (2, .if_icmp .le 44, 3), (5, .new 43, 3), (8, .dup, 1), (9, .new 45, 3), (12, .dup, 1), (13, .invokespecial 47, 3), (16, .ldc 48, 2), (18, .invokevirtual 50, 3), (21, .iload_n 1, 1), (22, .invokevirtual 54, 3), (25, .ldc 57, 2), (27, .invokevirtual 50, 3), (30, .iload_n 2, 1), (31, .invokevirtual 54, 3), (34, .ldc 59, 2), (36, .invokevirtual 50, 3), (39, .invokevirtual 61, 3), (42, .invokespecial 65, 3), (45, .athrow, 1), (46, .iload_n 1, 1), (47, .ifCond .ge 12, 3), (50, .new 68, 3), (53, .dup, 1), (54, .iload_n 1, 1), (55, .invokespecial 70, 3), (58, .athrow, 1), (59, .iload_n 2, 1), (60, .iload_n 0, 1), (61, .if_icmp .le 12, 3), (64, .new 68, 3), (67, .dup, 1), (68, .iload_n 2, 1), (69, .invokespecial 70, 3), (72, .athrow, 1), (73, .return_, 1)]
set_option maxRecDepth 100000 in
theorem dt_Ar_rangeCheck : q_ck n_Ar_rangeCheck t_Ar_rangeCheck = true := by decide +kernel
def c_Ar_rangeCheck_0 (h1 : qH) (d : Nat) (x0 : Int) (x1 : Int) (x2 : Int) (B : qB) (Q : qO → qB → Prop) : Prop := R32 x1 ∧ R32 x2 ∧ (x1 ≤ x2 → (x1 ≥ 0 → R32 x0 ∧ (x2 ≤ x0 → Q (.inl none) B) ∧ (x2 > x0 → False)) ∧ (x1 < 0 → False)) ∧ (x1 > x2 → False)
theorem c_Ar_rangeCheck_0_ok {h1 : qH} {d : Nat} {x0 : Int} {x1 : Int} {x2 : Int} {B : qB} {Q : qO → qB → Prop} (hd : 0 ≤ d) (hS : SH B) (w : c_Ar_rangeCheck_0 h1 d x0 x1 x2 B Q) : qY h1 (d + 1) n_Ar_rangeCheck 0 [some (iv x0), some (iv x1), some (iv x2)] [] B Q := by
  unfold c_Ar_rangeCheck_0 at w
  obtain ⟨p1, p2, w⟩ := w
  refine y_ldk (ok := q_isI) (n := 1) (ck_at dt_Ar_rangeCheck 0 rfl) rfl rfl (fun _ => rfl) rfl rfl ?_
  refine y_ldk (ok := q_isI) (n := 2) (ck_at dt_Ar_rangeCheck 1 rfl) rfl rfl (fun _ => rfl) rfl rfl ?_
  refine y_icmp (t := 46) (ck_at dt_Ar_rangeCheck 2 rfl) rfl p1 p2 ?_ ?_
  · intro q; have w := w.1 q
    refine y_ldk (ok := q_isI) (n := 1) (ck_at dt_Ar_rangeCheck 21 rfl) rfl rfl (fun _ => rfl) rfl rfl ?_
    refine y_ifz (t := 59) (ck_at dt_Ar_rangeCheck 22 rfl) rfl p1 ?_ ?_
    · intro q; have w := w.1 q
      obtain ⟨p3, w⟩ := w
      refine y_ldk (ok := q_isI) (n := 2) (ck_at dt_Ar_rangeCheck 28 rfl) rfl rfl (fun _ => rfl) rfl rfl ?_
      refine y_ldk (ok := q_isI) (n := 0) (ck_at dt_Ar_rangeCheck 29 rfl) rfl rfl (fun _ => rfl) rfl rfl ?_
      refine y_icmp (t := 73) (ck_at dt_Ar_rangeCheck 30 rfl) rfl p2 p3 ?_ ?_
      · intro q; have w := w.1 q
        exact y_ret0 (ck_at dt_Ar_rangeCheck 36 rfl) rt_Ar_rangeCheck w
      · intro q; have w := w.2 q
        exact w.elim
    · intro q; have w := w.2 q
      exact w.elim
  · intro q; have w := w.2 q
    exact w.elim
