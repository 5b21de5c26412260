/-! PatternTrier$Sets.open()I -/
def t_Se_open : List (Nat × Instr × Nat) := [(0, .aload_n 0, 1), (1, .getfield 15, 3), (4, .istore_n 1, 1), (5, .iconst 0, 1), (6, .istore_n 2, 1), (7, .iload_n 2, 1), (8, .bipush 8, 2), (10, .if_icmp .ge 23, 3), (13, .aload_n 0, 1), (14, .getfield 9, 3), (17, .iload_n 1, 1), (18, .bipush 8, 2), (20, .imul, 1), (21, .iload_n 2, 1), (22, .iadd, 1), (23, .iconst 0, 1), (24, .invokestatic 19, 3), (27, .iinc 2 1, 3), (30, .goto (-23), 3), (33, .aload_n 0, 1), (34, .dup, 1), (35, .getfield 15, 3), (38, .iconst 1, 1), (39, .iadd, 1), (40, .putfield 15, 3), (43, .iload_n 1, 1), (44, .ireturn, 1)]
set_option maxRecDepth 100000 in
theorem dt_Se_open : q_ck n_Se_open t_Se_open = true := by decide +kernel
def c_Se_open_7 (h1 : qH) (d : Nat) (a0 : Nat) (x1 : Int) (x2 : Int) (B : qB) (Q : qO → qB → Prop) : Prop := R32 x2 ∧ (x2 ≥ 8 → Q (.inl (some (iv x1))) (u2 B a0 1 ((B a0 1) + 1))) ∧ (x2 < 8 → 0 ≤ ((x1 * 8) + x2) ∧ ((x1 * 8) + x2) < 1600 ∧ qY h1 (d + 1) n_Se_open 7 [some (.ref a0), some (iv x1), some (iv (x2 + 1))] [] (u2 B (a0 + 1) ((x1 * 8) + x2) 0) Q)
theorem c_Se_open_7_ok {h1 : qH} {d : Nat} {a0 : Nat} {x1 : Int} {x2 : Int} {B : qB} {Q : qO → qB → Prop} (hd : 1 ≤ d) (hS : SH B) (ha0 : ob 7 a0) (w : c_Se_open_7 h1 d a0 x1 x2 B Q) : qY h1 (d + 1) n_Se_open 7 [some (.ref a0), some (iv x1), some (iv x2)] [] B Q := by
  unfold c_Se_open_7 at w
  obtain ⟨p1, w⟩ := w
  refine y_ldk (ok := q_isI) (n := 2) (ck_at dt_Se_open 5 rfl) rfl rfl (fun _ => rfl) rfl rfl ?_
  refine y_op (ck_at dt_Se_open 6 rfl) rfl (o_bipush _ (by decide)) ?_
  refine y_icmp (t := 33) (ck_at dt_Se_open 7 rfl) rfl p1 ⟨by decide, by decide⟩ ?_ ?_
  · intro q; have w := w.1 q
    refine y_ldk (ok := q_isA) (n := 0) (ck_at dt_Se_open 19 rfl) rfl rfl (fun _ => rfl) rfl rfl ?_
    refine y_op (ck_at dt_Se_open 20 rfl) rfl rfl ?_
    refine y_getI (K := 7) (j := 1) (a := a0) (ck_at dt_Se_open 21 rfl) own_Se_open (cf_at 31 rfl) rfl rfl rfl ⟨(SH.o hS ha0), ?_⟩
    refine y_op (ck_at dt_Se_open 22 rfl) rfl (o_const _) ?_
    refine y_op (ck_at dt_Se_open 23 rfl) rfl o_iadd ?_
    refine y_putI (K := 7) (j := 1) (a := a0) (ck_at dt_Se_open 24 rfl) own_Se_open (cf_at 31 rfl) rfl rfl rfl rfl rfl ⟨⟨SH.o hS ha0, ob.lt ha0⟩, ?_⟩
    have hS2 := SH_u2 (b := a0) (x := 1) (z := (B a0 1) + 1) hS (by decide)
    refine y_ldk (ok := q_isI) (n := 1) (ck_at dt_Se_open 25 rfl) rfl rfl (fun _ => rfl) rfl rfl ?_
    exact y_retI (ck_at dt_Se_open 26 rfl) rt_Se_open w
  · intro q; have w := w.2 q
    obtain ⟨p3, p4, w⟩ := w
    refine y_ldk (ok := q_isA) (n := 0) (ck_at dt_Se_open 8 rfl) rfl rfl (fun _ => rfl) rfl rfl ?_
    refine y_getF (r := a0 + 1) (K := 7) (j := 0) (a := a0) (ck_at dt_Se_open 9 rfl) own_Se_open (cf_at 30 rfl) rfl rfl ⟨(SH.o hS ha0), ?_⟩
    refine y_ldk (ok := q_isI) (n := 1) (ck_at dt_Se_open 10 rfl) rfl rfl (fun _ => rfl) rfl rfl ?_
    refine y_op (ck_at dt_Se_open 11 rfl) rfl (o_bipush _ (by decide)) ?_
    refine y_op (ck_at dt_Se_open 12 rfl) rfl o_imul ?_
    refine y_ldk (ok := q_isI) (n := 2) (ck_at dt_Se_open 13 rfl) rfl rfl (fun _ => rfl) rfl rfl ?_
    refine y_op (ck_at dt_Se_open 14 rfl) rfl o_iadd ?_
    refine y_op (ck_at dt_Se_open 15 rfl) rfl (o_const _) ?_
    refine y_stat3V (k' := n_P_put) (n := 0) (as := [.ref (a0 + 1), iv ((x1 * 8) + x2), iv 0]) (r := []) (ck_at dt_Se_open 16 rfl) own_Se_open (cm_at 74 rfl) (cs_at 16 rfl) vk_P_put rfl nl_P_put rfl rfl rfl rfl  (Y_P_put (by omega) hS (SH.a hS (oa7 ha0)) (by decide) (oa.lt (oa7 ha0)) p3 p4 ⟨rfl, rfl⟩) ?_
    have hS5 := SH_u2 (b := (a0 + 1)) (x := ((x1 * 8) + x2)) (z := 0) hS p3
    refine y_iinc (n := 2) (L' := [some (.ref a0), some (iv x1), some (iv (x2 + 1))]) (ck_at dt_Se_open 17 rfl) rfl nl_Se_open (by decide) rfl rfl ?_
    refine y_goto (t := 7) (ck_at dt_Se_open 18 rfl) rfl ?_
    exact y_wk w ⟨rfl, ⟨rfl, ⟨rfl, trivial⟩⟩⟩
def c_Se_open_0 (h1 : qH) (d : Nat) (a0 : Nat) (B : qB) (Q : qO → qB → Prop) : Prop := qY h1 (d + 1) n_Se_open 7 [some (.ref a0), some (iv (B a0 1)), some (iv 0)] [] B Q
theorem c_Se_open_0_ok {h1 : qH} {d : Nat} {a0 : Nat} {B : qB} {Q : qO → qB → Prop} (hd : 1 ≤ d) (hS : SH B) (ha0 : ob 7 a0) (w : c_Se_open_0 h1 d a0 B Q) : qY h1 (d + 1) n_Se_open 0 [some (.ref a0), none, none] [] B Q := by
  unfold c_Se_open_0 at w
  refine y_ldk (ok := q_isA) (n := 0) (ck_at dt_Se_open 0 rfl) rfl rfl (fun _ => rfl) rfl rfl ?_
  refine y_getI (K := 7) (j := 1) (a := a0) (ck_at dt_Se_open 1 rfl) own_Se_open (cf_at 31 rfl) rfl rfl rfl ⟨(SH.o hS ha0), ?_⟩
  refine y_st1 (ok := q_isI) (n := 1) (L' := [some (.ref a0), some (iv (B a0 1)), none]) (ck_at dt_Se_open 2 rfl) rfl (fun _ => rfl) (fun _ _ => rfl) rfl nl_Se_open (by decide) rfl rfl ?_
  refine y_op (ck_at dt_Se_open 3 rfl) rfl (o_const _) ?_
  refine y_st1 (ok := q_isI) (n := 2) (L' := [some (.ref a0), some (iv (B a0 1)), some (iv 0)]) (ck_at dt_Se_open 4 rfl) rfl (fun _ => rfl) (fun _ _ => rfl) rfl nl_Se_open (by decide) rfl rfl ?_
  exact y_wk w ⟨rfl, ⟨rfl, ⟨rfl, trivial⟩⟩⟩
/-! PatternTrier$Sets.addRange(III)V -/
def t_Se_addRange : List (Nat × Instr × Nat) := [(0, .iload_n 2, 1), (1, .istore 4, 2), (3, .iload 4, 2), (5, .iload_n 3, 1), (6, .if_icmp .gt 54, 3), (9, .iload 4, 2), (11, .sipush 256, 3), (14, .if_icmp .ge 46, 3), (17, .iload_n 1, 1), (18, .bipush 8, 2), (20, .imul, 1), (21, .iload 4, 2), (23, .iconst 5, 1), (24, .iushr, 1), (25, .iadd, 1), (26, .istore 5, 2), (28, .aload_n 0, 1), (29, .getfield 9, 3), (32, .iload 5, 2), (34, .aload_n 0, 1), (35, .getfield 9, 3), (38, .iload 5, 2), (40, .invokestatic 23, 3), (43, .iconst 1, 1), (44, .iload 4, 2), (46, .bipush 31, 2), (48, .iand, 1), (49, .ishl, 1), (50, .ior, 1), (51, .invokestatic 19, 3), (54, .iinc 4 1, 3), (57, .goto (-54), 3), (60, .return_, 1)]
set_option maxRecDepth 100000 in
theorem dt_Se_addRange : q_ck n_Se_addRange t_Se_addRange = true := by decide +kernel
def c_Se_addRange_3 (h1 : qH) (d : Nat) (a0 : Nat) (x1 : Int) (x3 : Int) (x4 : Int) (B : qB) (Q : qO → qB → Prop) : Prop := R32 x4 ∧ R32 x3 ∧ (x4 > x3 → Q (.inl none) B) ∧ (x4 ≤ x3 → (x4 ≥ 256 → Q (.inl none) B) ∧ (x4 < 256 → 0 ≤ ((x1 * 8) + (iUshr x4 5)) ∧ ((x1 * 8) + (iUshr x4 5)) < 1600 ∧ qY h1 (d + 1) n_Se_addRange 3 [some (.ref a0), some (iv x1), none, some (iv x3), some (iv (x4 + 1)), none] [] (u2 B (a0 + 1) ((x1 * 8) + (iUshr x4 5)) (iOr (B (a0 + 1) ((x1 * 8) + (iUshr x4 5))) (iShl 1 (iAnd x4 31)))) Q))
theorem c_Se_addRange_3_ok {h1 : qH} {d : Nat} {a0 : Nat} {x1 : Int} {x3 : Int} {x4 : Int} {B : qB} {Q : qO → qB → Prop} (hd : 1 ≤ d) (hS : SH B) (ha0 : ob 7 a0) (w : c_Se_addRange_3 h1 d a0 x1 x3 x4 B Q) : qY h1 (d + 1) n_Se_addRange 3 [some (.ref a0), some (iv x1), none, some (iv x3), some (iv x4), none] [] B Q := by
  unfold c_Se_addRange_3 at w
  obtain ⟨p1, p2, w⟩ := w
  refine y_ldk (ok := q_isI) (n := 4) (ck_at dt_Se_addRange 2 rfl) rfl rfl (fun _ => rfl) rfl rfl ?_
  refine y_ldk (ok := q_isI) (n := 3) (ck_at dt_Se_addRange 3 rfl) rfl rfl (fun _ => rfl) rfl rfl ?_
  refine y_icmp (t := 60) (ck_at dt_Se_addRange 4 rfl) rfl p1 p2 ?_ ?_
  · intro q; have w := w.1 q
    exact y_ret0 (ck_at dt_Se_addRange 32 rfl) rt_Se_addRange w
  · intro q; have w := w.2 q
    refine y_ldk (ok := q_isI) (n := 4) (ck_at dt_Se_addRange 5 rfl) rfl rfl (fun _ => rfl) rfl rfl ?_
    refine y_op (ck_at dt_Se_addRange 6 rfl) rfl (o_sipush _ (by decide)) ?_
    refine y_icmp (t := 60) (ck_at dt_Se_addRange 7 rfl) rfl p1 ⟨by decide, by decide⟩ ?_ ?_
    · intro q; have w := w.1 q
      exact y_ret0 (ck_at dt_Se_addRange 32 rfl) rt_Se_addRange w
    · intro q; have w := w.2 q
      obtain ⟨p3, p4, w⟩ := w
      refine y_ldk (ok := q_isI) (n := 1) (ck_at dt_Se_addRange 8 rfl) rfl rfl (fun _ => rfl) rfl rfl ?_
      refine y_op (ck_at dt_Se_addRange 9 rfl) rfl (o_bipush _ (by decide)) ?_
      refine y_op (ck_at dt_Se_addRange 10 rfl) rfl o_imul ?_
      refine y_ldk (ok := q_isI) (n := 4) (ck_at dt_Se_addRange 11 rfl) rfl rfl (fun _ => rfl) rfl rfl ?_
      refine y_op (ck_at dt_Se_addRange 12 rfl) rfl (o_const _) ?_
      refine y_op (ck_at dt_Se_addRange 13 rfl) rfl o_iushr ?_
      refine y_op (ck_at dt_Se_addRange 14 rfl) rfl o_iadd ?_
      refine y_st1 (ok := q_isI) (n := 5) (L' := [some (.ref a0), some (iv x1), none, some (iv x3), some (iv x4), some (iv ((x1 * 8) + (iUshr x4 5)))]) (ck_at dt_Se_addRange 15 rfl) rfl (fun _ => rfl) (fun _ _ => rfl) rfl nl_Se_addRange (by decide) rfl rfl ?_
      refine y_ldk (ok := q_isA) (n := 0) (ck_at dt_Se_addRange 16 rfl) rfl rfl (fun _ => rfl) rfl rfl ?_
      refine y_getF (r := a0 + 1) (K := 7) (j := 0) (a := a0) (ck_at dt_Se_addRange 17 rfl) own_Se_addRange (cf_at 30 rfl) rfl rfl ⟨(SH.o hS ha0), ?_⟩
      refine y_ldk (ok := q_isI) (n := 5) (ck_at dt_Se_addRange 18 rfl) rfl rfl (fun _ => rfl) rfl rfl ?_
      refine y_ldk (ok := q_isA) (n := 0) (ck_at dt_Se_addRange 19 rfl) rfl rfl (fun _ => rfl) rfl rfl ?_
      refine y_getF (r := a0 + 1) (K := 7) (j := 0) (a := a0) (ck_at dt_Se_addRange 20 rfl) own_Se_addRange (cf_at 30 rfl) rfl rfl ⟨(SH.o hS ha0), ?_⟩
      refine y_ldk (ok := q_isI) (n := 5) (ck_at dt_Se_addRange 21 rfl) rfl rfl (fun _ => rfl) rfl rfl ?_
      refine y_stat3P (k' := n_P_cell) (n := 0) (as := [.ref (a0 + 1), iv ((x1 * 8) + (iUshr x4 5))]) (r := [iv ((x1 * 8) + (iUshr x4 5)), .ref (a0 + 1)]) (ck_at dt_Se_addRange 22 rfl) own_Se_addRange (cm_at 75 rfl) (cs_at 17 rfl) vk_P_cell rfl nl_P_cell rfl rfl rfl rfl  (Y_P_cell (by omega) hS (SH.a hS (oa7 ha0)) (by decide) p3 p4 ⟨rfl, rfl⟩) ?_
      refine y_op (ck_at dt_Se_addRange 23 rfl) rfl (o_const _) ?_
      refine y_ldk (ok := q_isI) (n := 4) (ck_at dt_Se_addRange 24 rfl) rfl rfl (fun _ => rfl) rfl rfl ?_
      refine y_op (ck_at dt_Se_addRange 25 rfl) rfl (o_bipush _ (by decide)) ?_
      refine y_op (ck_at dt_Se_addRange 26 rfl) rfl o_iand ?_
      refine y_op (ck_at dt_Se_addRange 27 rfl) rfl o_ishl ?_
      refine y_op (ck_at dt_Se_addRange 28 rfl) rfl o_ior ?_
      refine y_stat3V (k' := n_P_put) (n := 0) (as := [.ref (a0 + 1), iv ((x1 * 8) + (iUshr x4 5)), iv (iOr (B (a0 + 1) ((x1 * 8) + (iUshr x4 5))) (iShl 1 (iAnd x4 31)))]) (r := []) (ck_at dt_Se_addRange 29 rfl) own_Se_addRange (cm_at 74 rfl) (cs_at 16 rfl) vk_P_put rfl nl_P_put rfl rfl rfl rfl  (Y_P_put (by omega) hS (SH.a hS (oa7 ha0)) (by decide) (oa.lt (oa7 ha0)) p3 p4 ⟨rfl, rfl⟩) ?_
      have hS5 := SH_u2 (b := (a0 + 1)) (x := ((x1 * 8) + (iUshr x4 5))) (z := (iOr (B (a0 + 1) ((x1 * 8) + (iUshr x4 5))) (iShl 1 (iAnd x4 31)))) hS p3
      refine y_iinc (n := 4) (L' := [some (.ref a0), some (iv x1), none, some (iv x3), some (iv (x4 + 1)), some (iv ((x1 * 8) + (iUshr x4 5)))]) (ck_at dt_Se_addRange 30 rfl) rfl nl_Se_addRange (by decide) rfl rfl ?_
      refine y_goto (t := 3) (ck_at dt_Se_addRange 31 rfl) rfl ?_
      exact y_wk w ⟨rfl, ⟨rfl, ⟨rfl, ⟨rfl, trivial⟩⟩⟩⟩
def c_Se_addRange_0 (h1 : qH) (d : Nat) (a0 : Nat) (x1 : Int) (x2 : Int) (x3 : Int) (B : qB) (Q : qO → qB → Prop) : Prop := qY h1 (d + 1) n_Se_addRange 3 [some (.ref a0), some (iv x1), none, some (iv x3), some (iv x2), none] [] B Q
theorem c_Se_addRange_0_ok {h1 : qH} {d : Nat} {a0 : Nat} {x1 : Int} {x2 : Int} {x3 : Int} {B : qB} {Q : qO → qB → Prop} (hd : 1 ≤ d) (hS : SH B) (ha0 : ob 7 a0) (w : c_Se_addRange_0 h1 d a0 x1 x2 x3 B Q) : qY h1 (d + 1) n_Se_addRange 0 [some (.ref a0), some (iv x1), some (iv x2), some (iv x3), none, none] [] B Q := by
  unfold c_Se_addRange_0 at w
  refine y_ldk (ok := q_isI) (n := 2) (ck_at dt_Se_addRange 0 rfl) rfl rfl (fun _ => rfl) rfl rfl ?_
  refine y_st1 (ok := q_isI) (n := 4) (L' := [some (.ref a0), some (iv x1), some (iv x2), some (iv x3), some (iv x2), none]) (ck_at dt_Se_addRange 1 rfl) rfl (fun _ => rfl) (fun _ _ => rfl) rfl nl_Se_addRange (by decide) rfl rfl ?_
  exact y_wk w ⟨rfl, ⟨rfl, ⟨rfl, ⟨rfl, trivial⟩⟩⟩⟩
/-! PatternTrier$Sets.addClass(IIZ)V -/
def t_Se_addClass : List (Nat × Instr × Nat) := [(0, .iconst 0, 1), (1, .istore 4, 2), (3, .iload 4, 2), (5, .bipush 8, 2), (7, .if_icmp .ge 62, 3), (10, .iload_n 1, 1), (11, .bipush 8, 2), (13, .imul, 1), (14, .iload 4, 2), (16, .iadd, 1), (17, .istore 5, 2), (19, .getstatic 27, 3), (22, .iload_n 2, 1), (23, .iload 4, 2), (25, .iadd, 1), (26, .invokestatic 23, 3), (29, .istore 6, 2), (31, .aload_n 0, 1), (32, .getfield 9, 3), (35, .iload 5, 2), (37, .aload_n 0, 1), (38, .getfield 9, 3), (41, .iload 5, 2), (43, .invokestatic 23, 3), (46, .iload_n 3, 1), (47, .ifCond .eq 10, 3), (50, .iload 6, 2), (52, .iconst (-1), 1), (53, .ixor, 1), (54, .goto 5, 3), (57, .iload 6, 2), (59, .ior, 1), (60, .invokestatic 19, 3), (63, .iinc 4 1, 3), (66, .goto (-63), 3), (69, .return_, 1)]
set_option maxRecDepth 100000 in
theorem dt_Se_addClass : q_ck n_Se_addClass t_Se_addClass = true := by decide +kernel
def c_Se_addClass_59 (h1 : qH) (d : Nat) (a0 : Nat) (x1 : Int) (x2 : Int) (x3 : Int) (x4 : Int) (r0 : Nat) (n0 : Int) (s1 : Int) (s2 : Int) (s3 : Int) (B : qB) (Q : qO → qB → Prop) : Prop := 0 ≤ s1 ∧ s1 < n0 ∧ qY h1 (d + 1) n_Se_addClass 3 [some (.ref a0), some (iv x1), some (iv x2), some (iv x3), some (iv (x4 + 1)), none, none] [] (u2 B r0 s1 (iOr s2 s3)) Q
theorem c_Se_addClass_59_ok {h1 : qH} {d : Nat} {a0 : Nat} {x1 : Int} {x2 : Int} {x3 : Int} {x4 : Int} {r0 : Nat} {n0 : Int} {s1 : Int} {s2 : Int} {s3 : Int} {B : qB} {Q : qO → qB → Prop} (hd : 1 ≤ d) (hS : SH B) (ha0 : ob 7 a0) (hA0 : isA B 1 r0 n0) (hA0n : n0 ≤ 67108864) (hA0l : r0 < 1000000000) (w : c_Se_addClass_59 h1 d a0 x1 x2 x3 x4 r0 n0 s1 s2 s3 B Q) : qY h1 (d + 1) n_Se_addClass 59 [some (.ref a0), some (iv x1), some (iv x2), some (iv x3), some (iv x4), none, none] [iv s3, iv s2, iv s1, .ref r0] B Q := by
  unfold c_Se_addClass_59 at w
  obtain ⟨p1, p2, w⟩ := w
  refine y_op (ck_at dt_Se_addClass 31 rfl) rfl o_ior ?_
  refine y_stat3V (k' := n_P_put) (n := 0) (as := [.ref r0, iv s1, iv (iOr s2 s3)]) (r := []) (ck_at dt_Se_addClass 32 rfl) own_Se_addClass (cm_at 74 rfl) (cs_at 16 rfl) vk_P_put rfl nl_P_put rfl rfl rfl rfl  (Y_P_put (by omega) hS hA0 hA0n hA0l p1 p2 ⟨rfl, rfl⟩) ?_
  have hS3 := SH_u2 (b := r0) (x := s1) (z := (iOr s2 s3)) hS p1
  refine y_iinc (n := 4) (L' := [some (.ref a0), some (iv x1), some (iv x2), some (iv x3), some (iv (x4 + 1)), none, none]) (ck_at dt_Se_addClass 33 rfl) rfl nl_Se_addClass (by decide) rfl rfl ?_
  refine y_goto (t := 3) (ck_at dt_Se_addClass 34 rfl) rfl ?_
  exact y_wk w ⟨rfl, ⟨rfl, ⟨rfl, ⟨rfl, ⟨rfl, trivial⟩⟩⟩⟩⟩
def c_Se_addClass_3 (h1 : qH) (d : Nat) (a0 : Nat) (x1 : Int) (x2 : Int) (x3 : Int) (x4 : Int) (B : qB) (Q : qO → qB → Prop) : Prop := R32 x4 ∧ (x4 ≥ 8 → Q (.inl none) B) ∧ (x4 < 8 → 0 ≤ (x2 + x4) ∧ (x2 + x4) < 32 ∧ 0 ≤ ((x1 * 8) + x4) ∧ ((x1 * 8) + x4) < 1600 ∧ R32 x3 ∧ (x3 = 0 → c_Se_addClass_59 h1 d a0 x1 x2 x3 x4 (a0 + 1) 1600 ((x1 * 8) + x4) (B (a0 + 1) ((x1 * 8) + x4)) (B 1000000000 (x2 + x4)) B Q) ∧ (¬ x3 = 0 → c_Se_addClass_59 h1 d a0 x1 x2 x3 x4 (a0 + 1) 1600 ((x1 * 8) + x4) (B (a0 + 1) ((x1 * 8) + x4)) (iXor (B 1000000000 (x2 + x4)) (-1)) B Q))
theorem c_Se_addClass_3_ok {h1 : qH} {d : Nat} {a0 : Nat} {x1 : Int} {x2 : Int} {x3 : Int} {x4 : Int} {B : qB} {Q : qO → qB → Prop} (hd : 1 ≤ d) (hS : SH B) (ha0 : ob 7 a0) (w : c_Se_addClass_3 h1 d a0 x1 x2 x3 x4 B Q) : qY h1 (d + 1) n_Se_addClass 3 [some (.ref a0), some (iv x1), some (iv x2), some (iv x3), some (iv x4), none, none] [] B Q := by
  unfold c_Se_addClass_3 at w
  obtain ⟨p1, w⟩ := w
  refine y_ldk (ok := q_isI) (n := 4) (ck_at dt_Se_addClass 2 rfl) rfl rfl (fun _ => rfl) rfl rfl ?_
  refine y_op (ck_at dt_Se_addClass 3 rfl) rfl (o_bipush _ (by decide)) ?_
  refine y_icmp (t := 69) (ck_at dt_Se_addClass 4 rfl) rfl p1 ⟨by decide, by decide⟩ ?_ ?_
  · intro q; have w := w.1 q
    exact y_ret0 (ck_at dt_Se_addClass 35 rfl) rt_Se_addClass w
  · intro q; have w := w.2 q
    obtain ⟨p2, p3, p4, p5, p6, w⟩ := w
    refine y_ldk (ok := q_isI) (n := 1) (ck_at dt_Se_addClass 5 rfl) rfl rfl (fun _ => rfl) rfl rfl ?_
    refine y_op (ck_at dt_Se_addClass 6 rfl) rfl (o_bipush _ (by decide)) ?_
    refine y_op (ck_at dt_Se_addClass 7 rfl) rfl o_imul ?_
    refine y_ldk (ok := q_isI) (n := 4) (ck_at dt_Se_addClass 8 rfl) rfl rfl (fun _ => rfl) rfl rfl ?_
    refine y_op (ck_at dt_Se_addClass 9 rfl) rfl o_iadd ?_
    refine y_st1 (ok := q_isI) (n := 5) (L' := [some (.ref a0), some (iv x1), some (iv x2), some (iv x3), some (iv x4), some (iv ((x1 * 8) + x4)), none]) (ck_at dt_Se_addClass 10 rfl) rfl (fun _ => rfl) (fun _ _ => rfl) rfl nl_Se_addClass (by decide) rfl rfl ?_
    refine y_getst (ck_at dt_Se_addClass 11 rfl) own_Se_addClass rfl ?_
    refine y_ldk (ok := q_isI) (n := 2) (ck_at dt_Se_addClass 12 rfl) rfl rfl (fun _ => rfl) rfl rfl ?_
    refine y_ldk (ok := q_isI) (n := 4) (ck_at dt_Se_addClass 13 rfl) rfl rfl (fun _ => rfl) rfl rfl ?_
    refine y_op (ck_at dt_Se_addClass 14 rfl) rfl o_iadd ?_
    refine y_stat3P (k' := n_P_cell) (n := 0) (as := [.ref 1000000000, iv (x2 + x4)]) (r := []) (ck_at dt_Se_addClass 15 rfl) own_Se_addClass (cm_at 75 rfl) (cs_at 17 rfl) vk_P_cell rfl nl_P_cell rfl rfl rfl rfl  (Y_P_cell (by omega) hS (SH.k hS) (by decide) p2 p3 ⟨rfl, rfl⟩) ?_
    refine y_st1 (ok := q_isI) (n := 6) (L' := [some (.ref a0), some (iv x1), some (iv x2), some (iv x3), some (iv x4), some (iv ((x1 * 8) + x4)), some (iv (B 1000000000 (x2 + x4)))]) (ck_at dt_Se_addClass 16 rfl) rfl (fun _ => rfl) (fun _ _ => rfl) rfl nl_Se_addClass (by decide) rfl rfl ?_
    refine y_ldk (ok := q_isA) (n := 0) (ck_at dt_Se_addClass 17 rfl) rfl rfl (fun _ => rfl) rfl rfl ?_
    refine y_getF (r := a0 + 1) (K := 7) (j := 0) (a := a0) (ck_at dt_Se_addClass 18 rfl) own_Se_addClass (cf_at 30 rfl) rfl rfl ⟨(SH.o hS ha0), ?_⟩
    refine y_ldk (ok := q_isI) (n := 5) (ck_at dt_Se_addClass 19 rfl) rfl rfl (fun _ => rfl) rfl rfl ?_
    refine y_ldk (ok := q_isA) (n := 0) (ck_at dt_Se_addClass 20 rfl) rfl rfl (fun _ => rfl) rfl rfl ?_
    refine y_getF (r := a0 + 1) (K := 7) (j := 0) (a := a0) (ck_at dt_Se_addClass 21 rfl) own_Se_addClass (cf_at 30 rfl) rfl rfl ⟨(SH.o hS ha0), ?_⟩
    refine y_ldk (ok := q_isI) (n := 5) (ck_at dt_Se_addClass 22 rfl) rfl rfl (fun _ => rfl) rfl rfl ?_
    refine y_stat3P (k' := n_P_cell) (n := 0) (as := [.ref (a0 + 1), iv ((x1 * 8) + x4)]) (r := [iv ((x1 * 8) + x4), .ref (a0 + 1)]) (ck_at dt_Se_addClass 23 rfl) own_Se_addClass (cm_at 75 rfl) (cs_at 17 rfl) vk_P_cell rfl nl_P_cell rfl rfl rfl rfl  (Y_P_cell (by omega) hS (SH.a hS (oa7 ha0)) (by decide) p4 p5 ⟨rfl, rfl⟩) ?_
    refine y_ldk (ok := q_isI) (n := 3) (ck_at dt_Se_addClass 24 rfl) rfl rfl (fun _ => rfl) rfl rfl ?_
    refine y_ifz (t := 57) (ck_at dt_Se_addClass 25 rfl) rfl p6 ?_ ?_
    · intro q; have w := w.1 q
      refine y_ldk (ok := q_isI) (n := 6) (ck_at dt_Se_addClass 30 rfl) rfl rfl (fun _ => rfl) rfl rfl ?_
      exact y_wk (c_Se_addClass_59_ok (by omega) hS ha0 (SH.a hS (oa7 ha0)) (by decide) (oa.lt (oa7 ha0)) w) ⟨rfl, ⟨rfl, ⟨rfl, ⟨rfl, ⟨rfl, trivial⟩⟩⟩⟩⟩
    · intro q; have w := w.2 q
      refine y_ldk (ok := q_isI) (n := 6) (ck_at dt_Se_addClass 26 rfl) rfl rfl (fun _ => rfl) rfl rfl ?_
      refine y_op (ck_at dt_Se_addClass 27 rfl) rfl (o_const _) ?_
      refine y_op (ck_at dt_Se_addClass 28 rfl) rfl o_ixor ?_
      refine y_goto (t := 59) (ck_at dt_Se_addClass 29 rfl) rfl ?_
      exact y_wk (c_Se_addClass_59_ok (by omega) hS ha0 (SH.a hS (oa7 ha0)) (by decide) (oa.lt (oa7 ha0)) w) ⟨rfl, ⟨rfl, ⟨rfl, ⟨rfl, ⟨rfl, trivial⟩⟩⟩⟩⟩
def c_Se_addClass_0 (h1 : qH) (d : Nat) (a0 : Nat) (x1 : Int) (x2 : Int) (x3 : Int) (B : qB) (Q : qO → qB → Prop) : Prop := qY h1 (d + 1) n_Se_addClass 3 [some (.ref a0), some (iv x1), some (iv x2), some (iv x3), some (iv 0), none, none] [] B Q
theorem c_Se_addClass_0_ok {h1 : qH} {d : Nat} {a0 : Nat} {x1 : Int} {x2 : Int} {x3 : Int} {B : qB} {Q : qO → qB → Prop} (hd : 1 ≤ d) (hS : SH B) (ha0 : ob 7 a0) (w : c_Se_addClass_0 h1 d a0 x1 x2 x3 B Q) : qY h1 (d + 1) n_Se_addClass 0 [some (.ref a0), some (iv x1), some (iv x2), some (iv x3), none, none, none] [] B Q := by
  unfold c_Se_addClass_0 at w
  refine y_op (ck_at dt_Se_addClass 0 rfl) rfl (o_const _) ?_
  refine y_st1 (ok := q_isI) (n := 4) (L' := [some (.ref a0), some (iv x1), some (iv x2), some (iv x3), some (iv 0), none, none]) (ck_at dt_Se_addClass 1 rfl) rfl (fun _ => rfl) (fun _ _ => rfl) rfl nl_Se_addClass (by decide) rfl rfl ?_
  exact y_wk w ⟨rfl, ⟨rfl, ⟨rfl, ⟨rfl, ⟨rfl, trivial⟩⟩⟩⟩⟩
/-! PatternTrier$Sets.turnRound(I)V -/
def t_Se_turnRound : List (Nat × Instr × Nat) := [(0, .iconst 0, 1), (1, .istore_n 2, 1), (2, .iload_n 2, 1), (3, .bipush 8, 2), (5, .if_icmp .ge 34, 3), (8, .iload_n 1, 1), (9, .bipush 8, 2), (11, .imul, 1), (12, .iload_n 2, 1), (13, .iadd, 1), (14, .istore_n 3, 1), (15, .aload_n 0, 1), (16, .getfield 9, 3), (19, .iload_n 3, 1), (20, .aload_n 0, 1), (21, .getfield 9, 3), (24, .iload_n 3, 1), (25, .invokestatic 23, 3), (28, .iconst (-1), 1), (29, .ixor, 1), (30, .invokestatic 19, 3), (33, .iinc 2 1, 3), (36, .goto (-34), 3), (39, .return_, 1)]
set_option maxRecDepth 100000 in
theorem dt_Se_turnRound : q_ck n_Se_turnRound t_Se_turnRound = true := by decide +kernel
def c_Se_turnRound_2 (h1 : qH) (d : Nat) (a0 : Nat) (x1 : Int) (x2 : Int) (B : qB) (Q : qO → qB → Prop) : Prop := R32 x2 ∧ (x2 ≥ 8 → Q (.inl none) B) ∧ (x2 < 8 → 0 ≤ ((x1 * 8) + x2) ∧ ((x1 * 8) + x2) < 1600 ∧ qY h1 (d + 1) n_Se_turnRound 2 [some (.ref a0), some (iv x1), some (iv (x2 + 1)), none] [] (u2 B (a0 + 1) ((x1 * 8) + x2) (iXor (B (a0 + 1) ((x1 * 8) + x2)) (-1))) Q)
theorem c_Se_turnRound_2_ok {h1 : qH} {d : Nat} {a0 : Nat} {x1 : Int} {x2 : Int} {B : qB} {Q : qO → qB → Prop} (hd : 1 ≤ d) (hS : SH B) (ha0 : ob 7 a0) (w : c_Se_turnRound_2 h1 d a0 x1 x2 B Q) : qY h1 (d + 1) n_Se_turnRound 2 [some (.ref a0), some (iv x1), some (iv x2), none] [] B Q := by
  unfold c_Se_turnRound_2 at w
  obtain ⟨p1, w⟩ := w
  refine y_ldk (ok := q_isI) (n := 2) (ck_at dt_Se_turnRound 2 rfl) rfl rfl (fun _ => rfl) rfl rfl ?_
  refine y_op (ck_at dt_Se_turnRound 3 rfl) rfl (o_bipush _ (by decide)) ?_
  refine y_icmp (t := 39) (ck_at dt_Se_turnRound 4 rfl) rfl p1 ⟨by decide, by decide⟩ ?_ ?_
  · intro q; have w := w.1 q
    exact y_ret0 (ck_at dt_Se_turnRound 23 rfl) rt_Se_turnRound w
  · intro q; have w := w.2 q
    obtain ⟨p2, p3, w⟩ := w
    refine y_ldk (ok := q_isI) (n := 1) (ck_at dt_Se_turnRound 5 rfl) rfl rfl (fun _ => rfl) rfl rfl ?_
    refine y_op (ck_at dt_Se_turnRound 6 rfl) rfl (o_bipush _ (by decide)) ?_
    refine y_op (ck_at dt_Se_turnRound 7 rfl) rfl o_imul ?_
    refine y_ldk (ok := q_isI) (n := 2) (ck_at dt_Se_turnRound 8 rfl) rfl rfl (fun _ => rfl) rfl rfl ?_
    refine y_op (ck_at dt_Se_turnRound 9 rfl) rfl o_iadd ?_
    refine y_st1 (ok := q_isI) (n := 3) (L' := [some (.ref a0), some (iv x1), some (iv x2), some (iv ((x1 * 8) + x2))]) (ck_at dt_Se_turnRound 10 rfl) rfl (fun _ => rfl) (fun _ _ => rfl) rfl nl_Se_turnRound (by decide) rfl rfl ?_
    refine y_ldk (ok := q_isA) (n := 0) (ck_at dt_Se_turnRound 11 rfl) rfl rfl (fun _ => rfl) rfl rfl ?_
    refine y_getF (r := a0 + 1) (K := 7) (j := 0) (a := a0) (ck_at dt_Se_turnRound 12 rfl) own_Se_turnRound (cf_at 30 rfl) rfl rfl ⟨(SH.o hS ha0), ?_⟩
    refine y_ldk (ok := q_isI) (n := 3) (ck_at dt_Se_turnRound 13 rfl) rfl rfl (fun _ => rfl) rfl rfl ?_
    refine y_ldk (ok := q_isA) (n := 0) (ck_at dt_Se_turnRound 14 rfl) rfl rfl (fun _ => rfl) rfl rfl ?_
    refine y_getF (r := a0 + 1) (K := 7) (j := 0) (a := a0) (ck_at dt_Se_turnRound 15 rfl) own_Se_turnRound (cf_at 30 rfl) rfl rfl ⟨(SH.o hS ha0), ?_⟩
    refine y_ldk (ok := q_isI) (n := 3) (ck_at dt_Se_turnRound 16 rfl) rfl rfl (fun _ => rfl) rfl rfl ?_
    refine y_stat3P (k' := n_P_cell) (n := 0) (as := [.ref (a0 + 1), iv ((x1 * 8) + x2)]) (r := [iv ((x1 * 8) + x2), .ref (a0 + 1)]) (ck_at dt_Se_turnRound 17 rfl) own_Se_turnRound (cm_at 75 rfl) (cs_at 17 rfl) vk_P_cell rfl nl_P_cell rfl rfl rfl rfl  (Y_P_cell (by omega) hS (SH.a hS (oa7 ha0)) (by decide) p2 p3 ⟨rfl, rfl⟩) ?_
    refine y_op (ck_at dt_Se_turnRound 18 rfl) rfl (o_const _) ?_
    refine y_op (ck_at dt_Se_turnRound 19 rfl) rfl o_ixor ?_
    refine y_stat3V (k' := n_P_put) (n := 0) (as := [.ref (a0 + 1), iv ((x1 * 8) + x2), iv (iXor (B (a0 + 1) ((x1 * 8) + x2)) (-1))]) (r := []) (ck_at dt_Se_turnRound 20 rfl) own_Se_turnRound (cm_at 74 rfl) (cs_at 16 rfl) vk_P_put rfl nl_P_put rfl rfl rfl rfl  (Y_P_put (by omega) hS (SH.a hS (oa7 ha0)) (by decide) (oa.lt (oa7 ha0)) p2 p3 ⟨rfl, rfl⟩) ?_
    have hS4 := SH_u2 (b := (a0 + 1)) (x := ((x1 * 8) + x2)) (z := (iXor (B (a0 + 1) ((x1 * 8) + x2)) (-1))) hS p2
    refine y_iinc (n := 2) (L' := [some (.ref a0), some (iv x1), some (iv (x2 + 1)), some (iv ((x1 * 8) + x2))]) (ck_at dt_Se_turnRound 21 rfl) rfl nl_Se_turnRound (by decide) rfl rfl ?_
    refine y_goto (t := 2) (ck_at dt_Se_turnRound 22 rfl) rfl ?_
    exact y_wk w ⟨rfl, ⟨rfl, ⟨rfl, trivial⟩⟩⟩
def c_Se_turnRound_0 (h1 : qH) (d : Nat) (a0 : Nat) (x1 : Int) (B : qB) (Q : qO → qB → Prop) : Prop := qY h1 (d + 1) n_Se_turnRound 2 [some (.ref a0), some (iv x1), some (iv 0), none] [] B Q
theorem c_Se_turnRound_0_ok {h1 : qH} {d : Nat} {a0 : Nat} {x1 : Int} {B : qB} {Q : qO → qB → Prop} (hd : 1 ≤ d) (hS : SH B) (ha0 : ob 7 a0) (w : c_Se_turnRound_0 h1 d a0 x1 B Q) : qY h1 (d + 1) n_Se_turnRound 0 [some (.ref a0), some (iv x1), none, none] [] B Q := by
  unfold c_Se_turnRound_0 at w
  refine y_op (ck_at dt_Se_turnRound 0 rfl) rfl (o_const _) ?_
  refine y_st1 (ok := q_isI) (n := 2) (L' := [some (.ref a0), some (iv x1), some (iv 0), none]) (ck_at dt_Se_turnRound 1 rfl) rfl (fun _ => rfl) (fun _ _ => rfl) rfl nl_Se_turnRound (by decide) rfl rfl ?_
  exact y_wk w ⟨rfl, ⟨rfl, ⟨rfl, trivial⟩⟩⟩
/-! PatternTrier$Sets.copy(LPatternTrier$Sets;)V -/
def t_Se_copy : List (Nat × Instr × Nat) := [(0, .iconst 0, 1), (1, .aload_n 1, 1), (2, .getfield 15, 3), (5, .bipush 8, 2), (7, .imul, 1), (8, .invokestatic 30, 3), (11, .aload_n 0, 1), (12, .getfield 9, 3), (15, .arraylength, 1), (16, .invokestatic 36, 3), (19, .istore_n 2, 1), (20, .aload_n 1, 1), (21, .getfield 9, 3), (24, .iconst 0, 1), (25, .aload_n 0, 1), (26, .getfield 9, 3), (29, .iconst 0, 1), (30, .iload_n 2, 1), (31, .invokestatic 39, 3), (34, .aload_n 0, 1), (35, .aload_n 1, 1), (36, .getfield 15, 3), (39, .putfield 15, 3), (42, .return_, 1)]
set_option maxRecDepth 100000 in
theorem dt_Se_copy : q_ck n_Se_copy t_Se_copy = true := by decide +kernel
def c_Se_copy_0 (h1 : qH) (d : Nat) (a0 : Nat) (a1 : Nat) (B : qB) (Q : qO → qB → Prop) : Prop := R32 ((B a1 1) * 8) ∧ R32 (max 0 ((B a1 1) * 8)) ∧ 0 ≤ min (max 0 ((B a1 1) * 8)) 1600 ∧ 0 + (min (max 0 ((B a1 1) * 8)) 1600) ≤ 1600 ∧ Q (.inl none) (u2 (cpC B (a1 + 1) 0 (a0 + 1) 0 (min (max 0 ((B a1 1) * 8)) 1600)) a0 1 ((cpC B (a1 + 1) 0 (a0 + 1) 0 (min (max 0 ((B a1 1) * 8)) 1600)) a1 1))
theorem c_Se_copy_0_ok {h1 : qH} {d : Nat} {a0 : Nat} {a1 : Nat} {B : qB} {Q : qO → qB → Prop} (hd : 0 ≤ d) (hS : SH B) (ha0 : ob 7 a0) (ha1 : ob 7 a1) (w : c_Se_copy_0 h1 d a0 a1 B Q) : qY h1 (d + 1) n_Se_copy 0 [some (.ref a0), some (.ref a1), none] [] B Q := by
  unfold c_Se_copy_0 at w
  obtain ⟨p1, p2, p3, p4, w⟩ := w
  refine y_op (ck_at dt_Se_copy 0 rfl) rfl (o_const _) ?_
  refine y_ldk (ok := q_isA) (n := 1) (ck_at dt_Se_copy 1 rfl) rfl rfl (fun _ => rfl) rfl rfl ?_
  refine y_getI (K := 7) (j := 1) (a := a1) (ck_at dt_Se_copy 2 rfl) own_Se_copy (cf_at 31 rfl) rfl rfl rfl ⟨(SH.o hS ha1), ?_⟩
  refine y_op (ck_at dt_Se_copy 3 rfl) rfl (o_bipush _ (by decide)) ?_
  refine y_op (ck_at dt_Se_copy 4 rfl) rfl o_imul ?_
  refine y_mm (b := true) (ck_at dt_Se_copy 5 rfl) own_Se_copy (by decide +kernel) rfl ⟨by decide, by decide⟩ p1 ?_
  rw [if_pos rfl]
  refine y_ldk (ok := q_isA) (n := 0) (ck_at dt_Se_copy 6 rfl) rfl rfl (fun _ => rfl) rfl rfl ?_
  refine y_getF (r := a0 + 1) (K := 7) (j := 0) (a := a0) (ck_at dt_Se_copy 7 rfl) own_Se_copy (cf_at 30 rfl) rfl rfl ⟨(SH.o hS ha0), ?_⟩
  refine y_alen (ck_at dt_Se_copy 8 rfl) ⟨1, 1600, (SH.a hS (oa7 ha0)), (by decide), ?_⟩
  refine y_mm (b := false) (ck_at dt_Se_copy 9 rfl) own_Se_copy (by decide +kernel) rfl p2 ⟨by decide, by decide⟩ ?_
  rw [if_neg (by decide)]
  refine y_st1 (ok := q_isI) (n := 2) (L' := [some (.ref a0), some (.ref a1), some (iv (min (max 0 ((B a1 1) * 8)) 1600))]) (ck_at dt_Se_copy 10 rfl) rfl (fun _ => rfl) (fun _ _ => rfl) rfl nl_Se_copy (by decide) rfl rfl ?_
  refine y_ldk (ok := q_isA) (n := 1) (ck_at dt_Se_copy 11 rfl) rfl rfl (fun _ => rfl) rfl rfl ?_
  refine y_getF (r := a1 + 1) (K := 7) (j := 0) (a := a1) (ck_at dt_Se_copy 12 rfl) own_Se_copy (cf_at 30 rfl) rfl rfl ⟨(SH.o hS ha1), ?_⟩
  refine y_op (ck_at dt_Se_copy 13 rfl) rfl (o_const _) ?_
  refine y_ldk (ok := q_isA) (n := 0) (ck_at dt_Se_copy 14 rfl) rfl rfl (fun _ => rfl) rfl rfl ?_
  refine y_getF (r := a0 + 1) (K := 7) (j := 0) (a := a0) (ck_at dt_Se_copy 15 rfl) own_Se_copy (cf_at 30 rfl) rfl rfl ⟨(SH.o hS ha0), ?_⟩
  refine y_op (ck_at dt_Se_copy 16 rfl) rfl (o_const _) ?_
  refine y_ldk (ok := q_isI) (n := 2) (ck_at dt_Se_copy 17 rfl) rfl rfl (fun _ => rfl) rfl rfl ?_
  refine y_copy (ck_at dt_Se_copy 18 rfl) own_Se_copy (by decide +kernel) rfl ⟨1, 1600, 1600, by decide, (SH.a hS (oa7 ha1)), (SH.a hS (oa7 ha0)), (by decide), (by decide), (oa.lt (oa7 ha1)), (oa.lt (oa7 ha0)), (by decide), (by decide), p3, p4, p4, (fun q => absurd q (by decide)), ?_⟩
  have hS5 := SH_cp (a0 := a1 + 1) (sp := 0) (a1 := a0 + 1) (dp := 0) (n := min (max 0 ((B a1 1) * 8)) 1600) hS (by decide)
  refine y_ldk (ok := q_isA) (n := 0) (ck_at dt_Se_copy 19 rfl) rfl rfl (fun _ => rfl) rfl rfl ?_
  refine y_ldk (ok := q_isA) (n := 1) (ck_at dt_Se_copy 20 rfl) rfl rfl (fun _ => rfl) rfl rfl ?_
  refine y_getI (K := 7) (j := 1) (a := a1) (ck_at dt_Se_copy 21 rfl) own_Se_copy (cf_at 31 rfl) rfl rfl rfl ⟨(SH.o hS5 ha1), ?_⟩
  refine y_putI (K := 7) (j := 1) (a := a0) (ck_at dt_Se_copy 22 rfl) own_Se_copy (cf_at 31 rfl) rfl rfl rfl rfl rfl ⟨⟨SH.o hS5 ha0, ob.lt ha0⟩, ?_⟩
  have hS6 := SH_u2 (b := a0) (x := 1) (z := (cpC B (a1 + 1) 0 (a0 + 1) 0 (min (max 0 ((B a1 1) * 8)) 1600)) a1 1) hS5 (by decide)
  exact y_ret0 (ck_at dt_Se_copy 23 rfl) rt_Se_copy w
