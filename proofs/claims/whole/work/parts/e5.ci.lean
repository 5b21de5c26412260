/-! PatternTrier$Bytes.copy(LPatternTrier$Bytes;)V -/
def t_By_copy : List (Nat × Instr × Nat) := [(0, .aload_n 0, 1), (1, .iconst 0, 1), (2, .putfield 21, 3), (5, .aload_n 0, 1), (6, .aload_n 1, 1), (7, .iconst 0, 1), (8, .aload_n 1, 1), (9, .getfield 21, 3), (12, .invokevirtual 35, 3), (15, .pop, 1), (16, .return_, 1)]
set_option maxRecDepth 100000 in
theorem dt_By_copy : q_ck n_By_copy t_By_copy = true := by decide +kernel
def c_By_copy_15 (h1 : qH) (d : Nat) (s0 : Int) (B : qB) (Q : qO → qB → Prop) : Prop := Q (.inl none) B
theorem c_By_copy_15_ok {h1 : qH} {d : Nat} {s0 : Int} {B : qB} {Q : qO → qB → Prop} (hd : 0 ≤ d) (hS : SH B) (w : c_By_copy_15 h1 d s0 B Q) : qY h1 (d + 1) n_By_copy 15 [none, none] [iv s0] B Q := by
  unfold c_By_copy_15 at w
  refine y_op (ck_at dt_By_copy 9 rfl) rfl rfl ?_
  exact y_ret0 (ck_at dt_By_copy 10 rfl) rt_By_copy w
def c_By_copy_0 (h1 : qH) (d : Nat) (a0 : Nat) (a1 : Nat) (B : qB) (Q : qO → qB → Prop) : Prop := qY h1 d n_By_addPart 0 [some (.ref a0), some (.ref a1), some (iv 0), some (iv ((u2 B a0 1 0) a1 1)), none] [] (u2 B a0 1 0) (fun o B' => ∃ v : Int, o = .inl (some (iv v)) ∧ SH B' ∧ c_By_copy_15 h1 d v B' Q)
theorem c_By_copy_0_ok {h1 : qH} {d : Nat} {a0 : Nat} {a1 : Nat} {B : qB} {Q : qO → qB → Prop} (hd : 0 ≤ d) (hS : SH B) (ha0 : ob 1 a0) (ha1 : ob 1 a1) (w : c_By_copy_0 h1 d a0 a1 B Q) : qY h1 (d + 1) n_By_copy 0 [some (.ref a0), some (.ref a1)] [] B Q := by
  unfold c_By_copy_0 at w
  refine y_ldk (ok := q_isA) (n := 0) (ck_at dt_By_copy 0 rfl) rfl rfl (fun _ => rfl) rfl rfl ?_
  refine y_op (ck_at dt_By_copy 1 rfl) rfl (o_const _) ?_
  refine y_putI (K := 1) (j := 1) (a := a0) (ck_at dt_By_copy 2 rfl) own_By_copy (cf_at 3 rfl) rfl rfl rfl rfl rfl ⟨⟨SH.o hS ha0, ob.lt ha0⟩, ?_⟩
  have hS1 := SH_u2 (b := a0) (x := 1) (z := 0) hS (by decide)
  refine y_ldk (ok := q_isA) (n := 0) (ck_at dt_By_copy 3 rfl) rfl rfl (fun _ => rfl) rfl rfl ?_
  refine y_ldk (ok := q_isA) (n := 1) (ck_at dt_By_copy 4 rfl) rfl rfl (fun _ => rfl) rfl rfl ?_
  refine y_op (ck_at dt_By_copy 5 rfl) rfl (o_const _) ?_
  refine y_ldk (ok := q_isA) (n := 1) (ck_at dt_By_copy 6 rfl) rfl rfl (fun _ => rfl) rfl rfl ?_
  refine y_getI (K := 1) (j := 1) (a := a1) (ck_at dt_By_copy 7 rfl) own_By_copy (cf_at 3 rfl) rfl rfl rfl ⟨(SH.o hS1 ha1), ?_⟩
  refine y_virt (k' := n_By_addPart) (n := 1) (as := [.ref a1, iv 0, iv ((u2 B a0 1 0) a1 1)]) (r := []) (ck_at dt_By_copy 8 rfl) own_By_copy (cm_at 20 rfl) vk_By_addPart rfl nl_By_addPart rfl rfl rfl rfl ⟨(SH.o hS1 ha0), ?_⟩
  exact w.mono (Nat.le_refl _) (fun o B' ⟨v, ho, hS', w⟩ => Or.inl ⟨some (iv v), ho, y_wk (c_By_copy_15_ok (by omega) hS' w) trivial⟩)
/-! PatternTrier$Bytes.addPart(LPatternTrier$Bytes;II)Z -/
def t_By_addPart : List (Nat × Instr × Nat) := [(0, .iload_n 3, 1), (1, .iload_n 2, 1), (2, .isub, 1), (3, .istore 4, 2), (5, .iload_n 2, 1), (6, .ifCond .lt 16, 3), (9, .iload 4, 2), (11, .ifCond .le 11, 3), (14, .iload_n 3, 1), (15, .aload_n 1, 1), (16, .getfield 21, 3), (19, .if_icmp .le 5, 3), (22, .iconst 1, 1), (23, .ireturn, 1), (24, .iload 4, 2), (26, .aload_n 0, 1), (27, .invokevirtual 25, 3), (30, .if_icmp .le 5, 3), (33, .iconst 0, 1), (34, .ireturn, 1), (35, .aload_n 1, 1), (36, .getfield 15, 3), (39, .iload_n 2, 1), (40, .aload_n 0, 1), (41, .getfield 15, 3), (44, .aload_n 0, 1), (45, .getfield 21, 3), (48, .iload 4, 2), (50, .invokestatic 29, 3), (53, .aload_n 0, 1), (54, .dup, 1), (55, .getfield 21, 3), (58, .iload 4, 2), (60, .iadd, 1), (61, .putfield 21, 3), (64, .iconst 1, 1), (65, .ireturn, 1)]
set_option maxRecDepth 100000 in
theorem dt_By_addPart : q_ck n_By_addPart t_By_addPart = true := by decide +kernel
def c_By_addPart_0 (h1 : qH) (d : Nat) (a0 : Nat) (a1 : Nat) (x2 : Int) (x3 : Int) (B : qB) (Q : qO → qB → Prop) : Prop := R32 x2 ∧ (x2 < 0 → Q (.inl (some (iv 1))) B) ∧ (x2 ≥ 0 → R32 (x3 - x2) ∧ (x3 - x2 ≤ 0 → Q (.inl (some (iv 1))) B) ∧ (x3 - x2 > 0 → R32 x3 ∧ R32 (B a1 1) ∧ (x3 ≤ B a1 1 → R32 (bl a0 - B a0 1) ∧ (x3 - x2 ≤ bl a0 - B a0 1 → 0 ≤ x2 ∧ 0 ≤ B a0 1 ∧ 0 ≤ x3 - x2 ∧ x2 + (x3 - x2) ≤ bl a1 ∧ (B a0 1) + (x3 - x2) ≤ bl a0 ∧ (∀ x, x2 ≤ x → x < x2 + (x3 - x2) → -128 ≤ B (a1 + 1) x ∧ B (a1 + 1) x ≤ 127) ∧ Q (.inl (some (iv 1))) (u2 (cpC B (a1 + 1) x2 (a0 + 1) (B a0 1) (x3 - x2)) a0 1 (((cpC B (a1 + 1) x2 (a0 + 1) (B a0 1) (x3 - x2)) a0 1) + (x3 - x2)))) ∧ (x3 - x2 > bl a0 - B a0 1 → Q (.inl (some (iv 0))) B)) ∧ (x3 > B a1 1 → Q (.inl (some (iv 1))) B)))
theorem c_By_addPart_0_ok {h1 : qH} {d : Nat} {a0 : Nat} {a1 : Nat} {x2 : Int} {x3 : Int} {B : qB} {Q : qO → qB → Prop} (hd : 1 ≤ d) (hS : SH B) (ha0 : ob 1 a0) (ha1 : ob 1 a1) (w : c_By_addPart_0 h1 d a0 a1 x2 x3 B Q) : qY h1 (d + 1) n_By_addPart 0 [some (.ref a0), some (.ref a1), some (iv x2), some (iv x3), none] [] B Q := by
  unfold c_By_addPart_0 at w
  obtain ⟨p1, w⟩ := w
  refine y_ldk (ok := q_isI) (n := 3) (ck_at dt_By_addPart 0 rfl) rfl rfl (fun _ => rfl) rfl rfl ?_
  refine y_ldk (ok := q_isI) (n := 2) (ck_at dt_By_addPart 1 rfl) rfl rfl (fun _ => rfl) rfl rfl ?_
  refine y_op (ck_at dt_By_addPart 2 rfl) rfl o_isub ?_
  refine y_st1 (ok := q_isI) (n := 4) (L' := [some (.ref a0), some (.ref a1), some (iv x2), some (iv x3), some (iv (x3 - x2))]) (ck_at dt_By_addPart 3 rfl) rfl (fun _ => rfl) (fun _ _ => rfl) rfl nl_By_addPart (by decide) rfl rfl ?_
  refine y_ldk (ok := q_isI) (n := 2) (ck_at dt_By_addPart 4 rfl) rfl rfl (fun _ => rfl) rfl rfl ?_
  refine y_ifz (t := 22) (ck_at dt_By_addPart 5 rfl) rfl p1 ?_ ?_
  · intro q; have w := w.1 q
    refine y_op (ck_at dt_By_addPart 12 rfl) rfl (o_const _) ?_
    exact y_retZ (ck_at dt_By_addPart 13 rfl) rt_By_addPart (by decide) w
  · intro q; have w := w.2 q
    obtain ⟨p2, w⟩ := w
    refine y_ldk (ok := q_isI) (n := 4) (ck_at dt_By_addPart 6 rfl) rfl rfl (fun _ => rfl) rfl rfl ?_
    refine y_ifz (t := 22) (ck_at dt_By_addPart 7 rfl) rfl p2 ?_ ?_
    · intro q; have w := w.1 q
      refine y_op (ck_at dt_By_addPart 12 rfl) rfl (o_const _) ?_
      exact y_retZ (ck_at dt_By_addPart 13 rfl) rt_By_addPart (by decide) w
    · intro q; have w := w.2 q
      obtain ⟨p3, p4, w⟩ := w
      refine y_ldk (ok := q_isI) (n := 3) (ck_at dt_By_addPart 8 rfl) rfl rfl (fun _ => rfl) rfl rfl ?_
      refine y_ldk (ok := q_isA) (n := 1) (ck_at dt_By_addPart 9 rfl) rfl rfl (fun _ => rfl) rfl rfl ?_
      refine y_getI (K := 1) (j := 1) (a := a1) (ck_at dt_By_addPart 10 rfl) own_By_addPart (cf_at 3 rfl) rfl rfl rfl ⟨(SH.o hS ha1), ?_⟩
      refine y_icmp (t := 24) (ck_at dt_By_addPart 11 rfl) rfl p3 p4 ?_ ?_
      · intro q; have w := w.1 q
        obtain ⟨p5, w⟩ := w
        refine y_ldk (ok := q_isI) (n := 4) (ck_at dt_By_addPart 14 rfl) rfl rfl (fun _ => rfl) rfl rfl ?_
        refine y_ldk (ok := q_isA) (n := 0) (ck_at dt_By_addPart 15 rfl) rfl rfl (fun _ => rfl) rfl rfl ?_
        refine y_virtP (k' := n_By_room) (n := 0) (as := []) (r := [iv (x3 - x2)]) (ck_at dt_By_addPart 16 rfl) own_By_addPart (cm_at 19 rfl) vk_By_room rfl nl_By_room rfl rfl rfl rfl (SH.o hS ha0) (Y_By_room (by omega) hS ha0 ⟨rfl, rfl⟩) ?_
        refine y_icmp (t := 35) (ck_at dt_By_addPart 17 rfl) rfl p2 p5 ?_ ?_
        · intro q; have w := w.1 q
          obtain ⟨p6, p7, p8, p9, p10, p11, w⟩ := w
          refine y_ldk (ok := q_isA) (n := 1) (ck_at dt_By_addPart 20 rfl) rfl rfl (fun _ => rfl) rfl rfl ?_
          refine y_getF (r := a1 + 1) (K := 1) (j := 0) (a := a1) (ck_at dt_By_addPart 21 rfl) own_By_addPart (cf_at 2 rfl) rfl rfl ⟨(SH.o hS ha1), ?_⟩
          refine y_ldk (ok := q_isI) (n := 2) (ck_at dt_By_addPart 22 rfl) rfl rfl (fun _ => rfl) rfl rfl ?_
          refine y_ldk (ok := q_isA) (n := 0) (ck_at dt_By_addPart 23 rfl) rfl rfl (fun _ => rfl) rfl rfl ?_
          refine y_getF (r := a0 + 1) (K := 1) (j := 0) (a := a0) (ck_at dt_By_addPart 24 rfl) own_By_addPart (cf_at 2 rfl) rfl rfl ⟨(SH.o hS ha0), ?_⟩
          refine y_ldk (ok := q_isA) (n := 0) (ck_at dt_By_addPart 25 rfl) rfl rfl (fun _ => rfl) rfl rfl ?_
          refine y_getI (K := 1) (j := 1) (a := a0) (ck_at dt_By_addPart 26 rfl) own_By_addPart (cf_at 3 rfl) rfl rfl rfl ⟨(SH.o hS ha0), ?_⟩
          refine y_ldk (ok := q_isI) (n := 4) (ck_at dt_By_addPart 27 rfl) rfl rfl (fun _ => rfl) rfl rfl ?_
          refine y_copy (ck_at dt_By_addPart 28 rfl) own_By_addPart (by decide +kernel) rfl ⟨0, bl a1, bl a0, by decide, (SH.a hS (oa1 ha1)), (SH.a hS (oa1 ha0)), (bl_le ha1), (bl_le ha0), (oa.lt (oa1 ha1)), (oa.lt (oa1 ha0)), p6, p7, p8, p9, p10, (fun _ => p11), ?_⟩
          have hS12 := SH_cp (a0 := a1 + 1) (sp := x2) (a1 := a0 + 1) (dp := B a0 1) (n := x3 - x2) hS p7
          refine y_ldk (ok := q_isA) (n := 0) (ck_at dt_By_addPart 29 rfl) rfl rfl (fun _ => rfl) rfl rfl ?_
          refine y_op (ck_at dt_By_addPart 30 rfl) rfl rfl ?_
          refine y_getI (K := 1) (j := 1) (a := a0) (ck_at dt_By_addPart 31 rfl) own_By_addPart (cf_at 3 rfl) rfl rfl rfl ⟨(SH.o hS12 ha0), ?_⟩
          refine y_ldk (ok := q_isI) (n := 4) (ck_at dt_By_addPart 32 rfl) rfl rfl (fun _ => rfl) rfl rfl ?_
          refine y_op (ck_at dt_By_addPart 33 rfl) rfl o_iadd ?_
          refine y_putI (K := 1) (j := 1) (a := a0) (ck_at dt_By_addPart 34 rfl) own_By_addPart (cf_at 3 rfl) rfl rfl rfl rfl rfl ⟨⟨SH.o hS12 ha0, ob.lt ha0⟩, ?_⟩
          have hS13 := SH_u2 (b := a0) (x := 1) (z := ((cpC B (a1 + 1) x2 (a0 + 1) (B a0 1) (x3 - x2)) a0 1) + (x3 - x2)) hS12 (by decide)
          refine y_op (ck_at dt_By_addPart 35 rfl) rfl (o_const _) ?_
          exact y_retZ (ck_at dt_By_addPart 36 rfl) rt_By_addPart (by decide) w
        · intro q; have w := w.2 q
          refine y_op (ck_at dt_By_addPart 18 rfl) rfl (o_const _) ?_
          exact y_retZ (ck_at dt_By_addPart 19 rfl) rt_By_addPart (by decide) w
      · intro q; have w := w.2 q
        refine y_op (ck_at dt_By_addPart 12 rfl) rfl (o_const _) ?_
        exact y_retZ (ck_at dt_By_addPart 13 rfl) rt_By_addPart (by decide) w
/-! PatternTrier.takeTape()LPatternTrier$Bytes; -/
def t_P_takeTape : List (Nat × Instr × Nat) := [(0, .aload_n 0, 1), (1, .getfield 35, 3), (4, .astore_n 1, 1), (5, .aload_n 0, 1), (6, .aload_n 0, 1), (7, .getfield 39, 3), (10, .putfield 35, 3), (13, .aload_n 0, 1), (14, .aload_n 1, 1), (15, .putfield 39, 3), (18, .aload_n 0, 1), (19, .getfield 35, 3), (22, .iconst 0, 1), (23, .invokevirtual 115, 3), (26, .aload_n 1, 1), (27, .areturn, 1)]
set_option maxRecDepth 100000 in
theorem dt_P_takeTape : q_ck n_P_takeTape t_P_takeTape = true := by decide +kernel
def c_P_takeTape_0 (h1 : qH) (d : Nat) (B : qB) (Q : qO → qB → Prop) : Prop := ob 1 (((((B 0 9).toNat : Nat) : Int)).toNat) ∧ bOK (u2 (u2 B 0 8 (((B 0 9).toNat : Nat) : Int)) 0 9 (((B 0 8).toNat : Nat) : Int)) (((((B 0 9).toNat : Nat) : Int)).toNat) ∧ Q (.inl (some (.ref ((B 0 8).toNat)))) (cuB (u2 (u2 B 0 8 (((B 0 9).toNat : Nat) : Int)) 0 9 (((B 0 8).toNat : Nat) : Int)) (((((B 0 9).toNat : Nat) : Int)).toNat) 0)
theorem c_P_takeTape_0_ok {h1 : qH} {d : Nat} {B : qB} {Q : qO → qB → Prop} (hd : 1 ≤ d) (hS : SH B) (w : c_P_takeTape_0 h1 d B Q) : qY h1 (d + 1) n_P_takeTape 0 [some (.ref 0), none] [] B Q := by
  unfold c_P_takeTape_0 at w
  obtain ⟨p3, p4, w⟩ := w
  refine y_ldk (ok := q_isA) (n := 0) (ck_at dt_P_takeTape 0 rfl) rfl rfl (fun _ => rfl) rfl rfl ?_
  refine y_getD (K := 10) (j := 8) (a := 0) (ck_at dt_P_takeTape 1 rfl) own_P_takeTape (cf_at 53 rfl) rfl rfl rfl ⟨(SH.o hS ⟨by decide, by decide, by decide⟩), ?_⟩
  refine y_st1 (ok := q_isA) (n := 1) (L' := [some (.ref 0), some (.ref ((B 0 8).toNat))]) (ck_at dt_P_takeTape 2 rfl) rfl (fun _ => rfl) (fun _ _ => rfl) rfl nl_P_takeTape (by decide) rfl rfl ?_
  refine y_ldk (ok := q_isA) (n := 0) (ck_at dt_P_takeTape 3 rfl) rfl rfl (fun _ => rfl) rfl rfl ?_
  refine y_ldk (ok := q_isA) (n := 0) (ck_at dt_P_takeTape 4 rfl) rfl rfl (fun _ => rfl) rfl rfl ?_
  refine y_getD (K := 10) (j := 9) (a := 0) (ck_at dt_P_takeTape 5 rfl) own_P_takeTape (cf_at 54 rfl) rfl rfl rfl ⟨(SH.o hS ⟨by decide, by decide, by decide⟩), ?_⟩
  refine y_putR (K := 10) (j := 8) (a := 0) (ck_at dt_P_takeTape 6 rfl) own_P_takeTape (cf_at 53 rfl) rfl rfl rfl rfl rfl rfl ⟨⟨SH.o hS ⟨by decide, by decide, by decide⟩, by decide⟩, ?_⟩
  have hS1 := SH_u2 (b := 0) (x := 8) (z := (((B 0 9).toNat : Nat) : Int)) hS (by decide)
  refine y_ldk (ok := q_isA) (n := 0) (ck_at dt_P_takeTape 7 rfl) rfl rfl (fun _ => rfl) rfl rfl ?_
  refine y_ldk (ok := q_isA) (n := 1) (ck_at dt_P_takeTape 8 rfl) rfl rfl (fun _ => rfl) rfl rfl ?_
  refine y_putR (K := 10) (j := 9) (a := 0) (ck_at dt_P_takeTape 9 rfl) own_P_takeTape (cf_at 54 rfl) rfl rfl rfl rfl rfl rfl ⟨⟨SH.o hS1 ⟨by decide, by decide, by decide⟩, by decide⟩, ?_⟩
  have hS2 := SH_u2 (b := 0) (x := 9) (z := (((B 0 8).toNat : Nat) : Int)) hS1 (by decide)
  refine y_ldk (ok := q_isA) (n := 0) (ck_at dt_P_takeTape 10 rfl) rfl rfl (fun _ => rfl) rfl rfl ?_
  refine y_getD (K := 10) (j := 8) (a := 0) (ck_at dt_P_takeTape 11 rfl) own_P_takeTape (cf_at 53 rfl) rfl rfl rfl ⟨(SH.o hS2 ⟨by decide, by decide, by decide⟩), ?_⟩
  refine y_op (ck_at dt_P_takeTape 12 rfl) rfl (o_const _) ?_
  refine y_virtV (k' := n_By_cut) (n := 0) (as := [iv 0]) (r := []) (ck_at dt_P_takeTape 13 rfl) own_P_takeTape (cm_at 129 rfl) vk_By_cut rfl nl_By_cut rfl rfl rfl rfl (SH.o hS2 p3) (Y_By_cut (by omega) hS2 p3 p4 ⟨by decide, by decide⟩ ⟨rfl, rfl⟩) ?_
  have hS5 : SH (cuB (u2 (u2 B 0 8 (((B 0 9).toNat : Nat) : Int)) 0 9 (((B 0 8).toNat : Nat) : Int)) (((((B 0 9).toNat : Nat) : Int)).toNat) 0) := S_By_cut hS2
  refine y_ldk (ok := q_isA) (n := 1) (ck_at dt_P_takeTape 14 rfl) rfl rfl (fun _ => rfl) rfl rfl ?_
  exact y_retR (ck_at dt_P_takeTape 15 rfl) rt_P_takeTape rfl w
/-! PatternTrier.swapFound()V -/
def t_P_swapFound : List (Nat × Instr × Nat) := [(0, .aload_n 0, 1), (1, .getfield 82, 3), (4, .astore_n 1, 1), (5, .aload_n 0, 1), (6, .aload_n 0, 1), (7, .getfield 86, 3), (10, .putfield 82, 3), (13, .aload_n 0, 1), (14, .aload_n 1, 1), (15, .putfield 86, 3), (18, .return_, 1)]
set_option maxRecDepth 100000 in
theorem dt_P_swapFound : q_ck n_P_swapFound t_P_swapFound = true := by decide +kernel
def c_P_swapFound_0 (h1 : qH) (d : Nat) (B : qB) (Q : qO → qB → Prop) : Prop := Q (.inl none) (u2 (u2 B 0 10 (((B 0 11).toNat : Nat) : Int)) 0 11 (((B 0 10).toNat : Nat) : Int))
theorem c_P_swapFound_0_ok {h1 : qH} {d : Nat} {B : qB} {Q : qO → qB → Prop} (hd : 0 ≤ d) (hS : SH B) (w : c_P_swapFound_0 h1 d B Q) : qY h1 (d + 1) n_P_swapFound 0 [some (.ref 0), none] [] B Q := by
  unfold c_P_swapFound_0 at w
  refine y_ldk (ok := q_isA) (n := 0) (ck_at dt_P_swapFound 0 rfl) rfl rfl (fun _ => rfl) rfl rfl ?_
  refine y_getD (K := 10) (j := 10) (a := 0) (ck_at dt_P_swapFound 1 rfl) own_P_swapFound (cf_at 60 rfl) rfl rfl rfl ⟨(SH.o hS ⟨by decide, by decide, by decide⟩), ?_⟩
  refine y_st1 (ok := q_isA) (n := 1) (L' := [some (.ref 0), some (.ref ((B 0 10).toNat))]) (ck_at dt_P_swapFound 2 rfl) rfl (fun _ => rfl) (fun _ _ => rfl) rfl nl_P_swapFound (by decide) rfl rfl ?_
  refine y_ldk (ok := q_isA) (n := 0) (ck_at dt_P_swapFound 3 rfl) rfl rfl (fun _ => rfl) rfl rfl ?_
  refine y_ldk (ok := q_isA) (n := 0) (ck_at dt_P_swapFound 4 rfl) rfl rfl (fun _ => rfl) rfl rfl ?_
  refine y_getD (K := 10) (j := 11) (a := 0) (ck_at dt_P_swapFound 5 rfl) own_P_swapFound (cf_at 61 rfl) rfl rfl rfl ⟨(SH.o hS ⟨by decide, by decide, by decide⟩), ?_⟩
  refine y_putR (K := 10) (j := 10) (a := 0) (ck_at dt_P_swapFound 6 rfl) own_P_swapFound (cf_at 60 rfl) rfl rfl rfl rfl rfl rfl ⟨⟨SH.o hS ⟨by decide, by decide, by decide⟩, by decide⟩, ?_⟩
  have hS1 := SH_u2 (b := 0) (x := 10) (z := (((B 0 11).toNat : Nat) : Int)) hS (by decide)
  refine y_ldk (ok := q_isA) (n := 0) (ck_at dt_P_swapFound 7 rfl) rfl rfl (fun _ => rfl) rfl rfl ?_
  refine y_ldk (ok := q_isA) (n := 1) (ck_at dt_P_swapFound 8 rfl) rfl rfl (fun _ => rfl) rfl rfl ?_
  refine y_putR (K := 10) (j := 11) (a := 0) (ck_at dt_P_swapFound 9 rfl) own_P_swapFound (cf_at 61 rfl) rfl rfl rfl rfl rfl rfl ⟨⟨SH.o hS1 ⟨by decide, by decide, by decide⟩, by decide⟩, ?_⟩
  have hS2 := SH_u2 (b := 0) (x := 11) (z := (((B 0 10).toNat : Nat) : Int)) hS1 (by decide)
  exact y_ret0 (ck_at dt_P_swapFound 10 rfl) rt_P_swapFound w
/-! PatternTrier.wrongPlace(LPatternTrier$Bytes;)I -/
def t_P_wrongPlace : List (Nat × Instr × Nat) := [(0, .iconst 0, 1), (1, .istore_n 1, 1), (2, .iload_n 1, 1), (3, .aload_n 0, 1), (4, .invokevirtual 107, 3), (7, .if_icmp .ge 43, 3), (10, .aload_n 0, 1), (11, .iload_n 1, 1), (12, .invokevirtual 240, 3), (15, .bipush 36, 2), (17, .if_icmp .ne 27, 3), (20, .iinc 1 1, 3), (23, .aload_n 0, 1), (24, .iload_n 1, 1), (25, .invokevirtual 240, 3), (28, .istore_n 2, 1), (29, .iload_n 2, 1), (30, .bipush 36, 2), (32, .if_icmp .eq 12, 3), (35, .iload_n 2, 1), (36, .invokestatic 272, 3), (39, .ifCond .ne 5, 3), (42, .iload_n 1, 1), (43, .ireturn, 1), (44, .iinc 1 1, 3), (47, .goto (-45), 3), (50, .iconst (-1), 1), (51, .ireturn, 1)]
set_option maxRecDepth 100000 in
theorem dt_P_wrongPlace : q_ck n_P_wrongPlace t_P_wrongPlace = true := by decide +kernel
def c_P_wrongPlace_44 (h1 : qH) (d : Nat) (a0 : Nat) (x1 : Int) (B : qB) (Q : qO → qB → Prop) : Prop := qY h1 (d + 1) n_P_wrongPlace 2 [some (.ref a0), some (iv (x1 + 1)), none] [] B Q
theorem c_P_wrongPlace_44_ok {h1 : qH} {d : Nat} {a0 : Nat} {x1 : Int} {B : qB} {Q : qO → qB → Prop} (hd : 1 ≤ d) (hS : SH B) (ha0 : ob 1 a0) (w : c_P_wrongPlace_44 h1 d a0 x1 B Q) : qY h1 (d + 1) n_P_wrongPlace 44 [some (.ref a0), some (iv x1), none] [] B Q := by
  unfold c_P_wrongPlace_44 at w
  refine y_iinc (n := 1) (L' := [some (.ref a0), some (iv (x1 + 1)), none]) (ck_at dt_P_wrongPlace 24 rfl) rfl nl_P_wrongPlace (by decide) rfl rfl ?_
  refine y_goto (t := 2) (ck_at dt_P_wrongPlace 25 rfl) rfl ?_
  exact y_wk w ⟨rfl, ⟨rfl, trivial⟩⟩
def c_P_wrongPlace_2 (h1 : qH) (d : Nat) (a0 : Nat) (x1 : Int) (B : qB) (Q : qO → qB → Prop) : Prop := R32 x1 ∧ R32 (B a0 1) ∧ (x1 ≥ B a0 1 → Q (.inl (some (iv (-1)))) B) ∧ (x1 < B a0 1 → bOK B a0 ∧ R32 (byA B a0 x1) ∧ (¬ byA B a0 x1 = 36 → c_P_wrongPlace_44 h1 d a0 x1 B Q) ∧ (byA B a0 x1 = 36 → R32 (x1 + 1) ∧ R32 (byA B a0 (x1 + 1)) ∧ (byA B a0 (x1 + 1) = 36 → c_P_wrongPlace_44 h1 d a0 (x1 + 1) B Q) ∧ (¬ byA B a0 (x1 + 1) = 36 → (¬ bi (isDg (byA B a0 (x1 + 1))) = 0 → c_P_wrongPlace_44 h1 d a0 (x1 + 1) B Q) ∧ (bi (isDg (byA B a0 (x1 + 1))) = 0 → Q (.inl (some (iv (x1 + 1)))) B))))
theorem c_P_wrongPlace_2_ok {h1 : qH} {d : Nat} {a0 : Nat} {x1 : Int} {B : qB} {Q : qO → qB → Prop} (hd : 1 ≤ d) (hS : SH B) (ha0 : ob 1 a0) (w : c_P_wrongPlace_2 h1 d a0 x1 B Q) : qY h1 (d + 1) n_P_wrongPlace 2 [some (.ref a0), some (iv x1), none] [] B Q := by
  unfold c_P_wrongPlace_2 at w
  obtain ⟨p1, p2, w⟩ := w
  refine y_ldk (ok := q_isI) (n := 1) (ck_at dt_P_wrongPlace 2 rfl) rfl rfl (fun _ => rfl) rfl rfl ?_
  refine y_ldk (ok := q_isA) (n := 0) (ck_at dt_P_wrongPlace 3 rfl) rfl rfl (fun _ => rfl) rfl rfl ?_
  refine y_virtP (k' := n_By_size) (n := 0) (as := []) (r := [iv x1]) (ck_at dt_P_wrongPlace 4 rfl) own_P_wrongPlace (cm_at 128 rfl) vk_By_size rfl nl_By_size rfl rfl rfl rfl (SH.o hS ha0) (Y_By_size (by omega) hS ha0 ⟨rfl, rfl⟩) ?_
  refine y_icmp (t := 50) (ck_at dt_P_wrongPlace 5 rfl) rfl p1 p2 ?_ ?_
  · intro q; have w := w.1 q
    refine y_op (ck_at dt_P_wrongPlace 26 rfl) rfl (o_const _) ?_
    exact y_retI (ck_at dt_P_wrongPlace 27 rfl) rt_P_wrongPlace w
  · intro q; have w := w.2 q
    obtain ⟨p3, p4, w⟩ := w
    refine y_ldk (ok := q_isA) (n := 0) (ck_at dt_P_wrongPlace 6 rfl) rfl rfl (fun _ => rfl) rfl rfl ?_
    refine y_ldk (ok := q_isI) (n := 1) (ck_at dt_P_wrongPlace 7 rfl) rfl rfl (fun _ => rfl) rfl rfl ?_
    refine y_virtP (k' := n_By_at) (n := 0) (as := [iv x1]) (r := []) (ck_at dt_P_wrongPlace 8 rfl) own_P_wrongPlace (cm_at 156 rfl) vk_By_at rfl nl_By_at rfl rfl rfl rfl (SH.o hS ha0) (Y_By_at (by omega) hS ha0 p3 p1 ⟨rfl, rfl⟩) ?_
    refine y_op (ck_at dt_P_wrongPlace 9 rfl) rfl (o_bipush _ (by decide)) ?_
    refine y_icmp (t := 44) (ck_at dt_P_wrongPlace 10 rfl) rfl p4 ⟨by decide, by decide⟩ ?_ ?_
    · intro q; have w := w.1 q
      exact y_wk (c_P_wrongPlace_44_ok (by omega) hS ha0 w) ⟨rfl, ⟨rfl, trivial⟩⟩
    · intro q; have w := w.2 q
      obtain ⟨p5, p6, w⟩ := w
      refine y_iinc (n := 1) (L' := [some (.ref a0), some (iv (x1 + 1)), none]) (ck_at dt_P_wrongPlace 11 rfl) rfl nl_P_wrongPlace (by decide) rfl rfl ?_
      refine y_ldk (ok := q_isA) (n := 0) (ck_at dt_P_wrongPlace 12 rfl) rfl rfl (fun _ => rfl) rfl rfl ?_
      refine y_ldk (ok := q_isI) (n := 1) (ck_at dt_P_wrongPlace 13 rfl) rfl rfl (fun _ => rfl) rfl rfl ?_
      refine y_virtP (k' := n_By_at) (n := 0) (as := [iv (x1 + 1)]) (r := []) (ck_at dt_P_wrongPlace 14 rfl) own_P_wrongPlace (cm_at 156 rfl) vk_By_at rfl nl_By_at rfl rfl rfl rfl (SH.o hS ha0) (Y_By_at (by omega) hS ha0 p3 p5 ⟨rfl, rfl⟩) ?_
      refine y_st1 (ok := q_isI) (n := 2) (L' := [some (.ref a0), some (iv (x1 + 1)), some (iv (byA B a0 (x1 + 1)))]) (ck_at dt_P_wrongPlace 15 rfl) rfl (fun _ => rfl) (fun _ _ => rfl) rfl nl_P_wrongPlace (by decide) rfl rfl ?_
      refine y_ldk (ok := q_isI) (n := 2) (ck_at dt_P_wrongPlace 16 rfl) rfl rfl (fun _ => rfl) rfl rfl ?_
      refine y_op (ck_at dt_P_wrongPlace 17 rfl) rfl (o_bipush _ (by decide)) ?_
      refine y_icmp (t := 44) (ck_at dt_P_wrongPlace 18 rfl) rfl p6 ⟨by decide, by decide⟩ ?_ ?_
      · intro q; have w := w.1 q
        exact y_wk (c_P_wrongPlace_44_ok (by omega) hS ha0 w) ⟨rfl, ⟨rfl, trivial⟩⟩
      · intro q; have w := w.2 q
        refine y_ldk (ok := q_isI) (n := 2) (ck_at dt_P_wrongPlace 19 rfl) rfl rfl (fun _ => rfl) rfl rfl ?_
        refine y_statP (k' := n_P_isDigit_IZn) (n := 0) (as := [iv (byA B a0 (x1 + 1))]) (r := []) (ck_at dt_P_wrongPlace 20 rfl) own_P_wrongPlace (cm_at 160 rfl) (cs_at 34 rfl) vk_P_isDigit_IZn rfl nl_P_isDigit_IZn rfl rfl rfl rfl  (Y_P_isDigit_IZn (by omega) hS p6 ⟨rfl, rfl⟩) ?_
        refine y_ifz (t := 44) (ck_at dt_P_wrongPlace 21 rfl) rfl (R32_bi _) ?_ ?_
        · intro q; have w := w.1 q
          exact y_wk (c_P_wrongPlace_44_ok (by omega) hS ha0 w) ⟨rfl, ⟨rfl, trivial⟩⟩
        · intro q; have w := w.2 q
          refine y_ldk (ok := q_isI) (n := 1) (ck_at dt_P_wrongPlace 22 rfl) rfl rfl (fun _ => rfl) rfl rfl ?_
          exact y_retI (ck_at dt_P_wrongPlace 23 rfl) rt_P_wrongPlace w
def c_P_wrongPlace_0 (h1 : qH) (d : Nat) (a0 : Nat) (B : qB) (Q : qO → qB → Prop) : Prop := qY h1 (d + 1) n_P_wrongPlace 2 [some (.ref a0), some (iv 0), none] [] B Q
theorem c_P_wrongPlace_0_ok {h1 : qH} {d : Nat} {a0 : Nat} {B : qB} {Q : qO → qB → Prop} (hd : 1 ≤ d) (hS : SH B) (ha0 : ob 1 a0) (w : c_P_wrongPlace_0 h1 d a0 B Q) : qY h1 (d + 1) n_P_wrongPlace 0 [some (.ref a0), none, none] [] B Q := by
  unfold c_P_wrongPlace_0 at w
  refine y_op (ck_at dt_P_wrongPlace 0 rfl) rfl (o_const _) ?_
  refine y_st1 (ok := q_isI) (n := 1) (L' := [some (.ref a0), some (iv 0), none]) (ck_at dt_P_wrongPlace 1 rfl) rfl (fun _ => rfl) (fun _ _ => rfl) rfl nl_P_wrongPlace (by decide) rfl rfl ?_
  exact y_wk w ⟨rfl, ⟨rfl, trivial⟩⟩
/-! PatternTrier.programAt(I)LPatternTrier$Program; -/
def t_P_programAt : List (Nat × Instr × Nat) := [(0, .iload_n 1, 1), (1, .ifCond .lt 21, 3), (4, .iload_n 1, 1), (5, .aload_n 0, 1), (6, .getfield 12, 3), (9, .arraylength, 1), (10, .if_icmp .ge 12, 3), (13, .aload_n 0, 1), (14, .getfield 12, 3), (17, .iload_n 1, 1), (18, .aaload, 1), (19, .ifnonnull 14, 3), (22, .new 110, 3), (25, .dup, 1), (26, .ldc_w 259, 3), (29, .invokespecial 114, 3), (32, .athrow, 1), (33, .aload_n 0, 1), (34, .getfield 12, 3), (37, .iload_n 1, 1), (38, .aaload, 1), (39, .areturn, 1)]
set_option maxRecDepth 100000 in
theorem dt_P_programAt : q_ck n_P_programAt t_P_programAt = true := by decide +kernel
set_option maxRecDepth 100000 in
theorem th_P_programAt_22 (st : List Value) : q_throw (q_ms n_P_programAt).2.1 (q_ms n_P_programAt).2.2.1 22 (.new 110) [] = some "java/lang/IllegalArgumentException" := by decide +kernel
def c_P_programAt_0 (h1 : qH) (d : Nat) (x1 : Int) (B : qB) (Q : qO → qB → Prop) : Prop := R32 x1 ∧ (x1 < 0 → (B 2000000000 (-1) = 0 ∧ 0 ≤ B 2000000000 0 ∧ 0 ≤ B 2000000000 1) ∧ Q (.inr "java/lang/IllegalArgumentException") (thC B)) ∧ (x1 ≥ 0 → (x1 ≥ 8 → (B 2000000000 (-1) = 0 ∧ 0 ≤ B 2000000000 0 ∧ 0 ≤ B 2000000000 1) ∧ Q (.inr "java/lang/IllegalArgumentException") (thC B)) ∧ (x1 < 8 → 0 ≤ x1 ∧ x1 < 8 ∧ Q (.inl (some (.ref (if 5 = 4 then 75 + 2 * x1.toNat else if x1.toNat = 0 then 1 else 2 + 9 * x1.toNat)))) B))
theorem c_P_programAt_0_ok {h1 : qH} {d : Nat} {x1 : Int} {B : qB} {Q : qO → qB → Prop} (hd : 0 ≤ d) (hS : SH B) (w : c_P_programAt_0 h1 d x1 B Q) : qY h1 (d + 1) n_P_programAt 0 [some (.ref 0), some (iv x1)] [] B Q := by
  unfold c_P_programAt_0 at w
  obtain ⟨p1, w⟩ := w
  refine y_ldk (ok := q_isI) (n := 1) (ck_at dt_P_programAt 0 rfl) rfl rfl (fun _ => rfl) rfl rfl ?_
  refine y_ifz (t := 22) (ck_at dt_P_programAt 1 rfl) rfl p1 ?_ ?_
  · intro q; have w := w.1 q
    exact y_throw (st := []) (E := "java/lang/IllegalArgumentException") (ck_at dt_P_programAt 12 rfl) (mem_110 own_P_programAt) (th_P_programAt_22 []) w
  · intro q; have w := w.2 q
    refine y_ldk (ok := q_isI) (n := 1) (ck_at dt_P_programAt 2 rfl) rfl rfl (fun _ => rfl) rfl rfl ?_
    refine y_ldk (ok := q_isA) (n := 0) (ck_at dt_P_programAt 3 rfl) rfl rfl (fun _ => rfl) rfl rfl ?_
    refine y_getF (r := 10) (K := 10) (j := 0) (a := 0) (ck_at dt_P_programAt 4 rfl) own_P_programAt (cf_at 50 rfl) rfl rfl ⟨(SH.o hS ⟨by decide, by decide, by decide⟩), ?_⟩
    refine y_alen (ck_at dt_P_programAt 5 rfl) ⟨5, 8, (SH.a (t := 5) (a := 10) (n := 8) hS ⟨by decide, by decide, by decide, by decide⟩), (by decide), ?_⟩
    refine y_icmp (t := 22) (ck_at dt_P_programAt 6 rfl) rfl p1 ⟨by decide, by decide⟩ ?_ ?_
    · intro q; have w := w.1 q
      exact y_throw (st := []) (E := "java/lang/IllegalArgumentException") (ck_at dt_P_programAt 12 rfl) (mem_110 own_P_programAt) (th_P_programAt_22 []) w
    · intro q; have w := w.2 q
      obtain ⟨p2, p3, w⟩ := w
      refine y_ldk (ok := q_isA) (n := 0) (ck_at dt_P_programAt 7 rfl) rfl rfl (fun _ => rfl) rfl rfl ?_
      refine y_getF (r := 10) (K := 10) (j := 0) (a := 0) (ck_at dt_P_programAt 8 rfl) own_P_programAt (cf_at 50 rfl) rfl rfl ⟨(SH.o hS ⟨by decide, by decide, by decide⟩), ?_⟩
      refine y_ldk (ok := q_isI) (n := 1) (ck_at dt_P_programAt 9 rfl) rfl rfl (fun _ => rfl) rfl rfl ?_
      refine y_aald (t := 5) (ck_at dt_P_programAt 10 rfl) (by decide) ⟨8, (SH.a (t := 5) (a := 10) (n := 8) hS ⟨by decide, by decide, by decide, by decide⟩), (by decide), p2, p3, ?_⟩
      refine y_ifnn (t := 33) (ck_at dt_P_programAt 11 rfl) rfl ?_
      refine y_ldk (ok := q_isA) (n := 0) (ck_at dt_P_programAt 17 rfl) rfl rfl (fun _ => rfl) rfl rfl ?_
      refine y_getF (r := 10) (K := 10) (j := 0) (a := 0) (ck_at dt_P_programAt 18 rfl) own_P_programAt (cf_at 50 rfl) rfl rfl ⟨(SH.o hS ⟨by decide, by decide, by decide⟩), ?_⟩
      refine y_ldk (ok := q_isI) (n := 1) (ck_at dt_P_programAt 19 rfl) rfl rfl (fun _ => rfl) rfl rfl ?_
      refine y_aald (t := 5) (ck_at dt_P_programAt 20 rfl) (by decide) ⟨8, (SH.a (t := 5) (a := 10) (n := 8) hS ⟨by decide, by decide, by decide, by decide⟩), (by decide), p2, p3, ?_⟩
      exact y_retR (ck_at dt_P_programAt 21 rfl) rt_P_programAt rfl w
/-! PatternTrier.textAt(I)LPatternTrier$Bytes; -/
def t_P_textAt : List (Nat × Instr × Nat) := [(0, .iload_n 1, 1), (1, .ifCond .lt 21, 3), (4, .iload_n 1, 1), (5, .aload_n 0, 1), (6, .getfield 18, 3), (9, .arraylength, 1), (10, .if_icmp .ge 12, 3), (13, .aload_n 0, 1), (14, .getfield 18, 3), (17, .iload_n 1, 1), (18, .aaload, 1), (19, .ifnonnull 14, 3), (22, .new 110, 3), (25, .dup, 1), (26, .ldc_w 261, 3), (29, .invokespecial 114, 3), (32, .athrow, 1), (33, .aload_n 0, 1), (34, .getfield 18, 3), (37, .iload_n 1, 1), (38, .aaload, 1), (39, .areturn, 1)]
set_option maxRecDepth 100000 in
theorem dt_P_textAt : q_ck n_P_textAt t_P_textAt = true := by decide +kernel
set_option maxRecDepth 100000 in
theorem th_P_textAt_22 (st : List Value) : q_throw (q_ms n_P_textAt).2.1 (q_ms n_P_textAt).2.2.1 22 (.new 110) [] = some "java/lang/IllegalArgumentException" := by decide +kernel
def c_P_textAt_0 (h1 : qH) (d : Nat) (x1 : Int) (B : qB) (Q : qO → qB → Prop) : Prop := R32 x1 ∧ (x1 < 0 → (B 2000000000 (-1) = 0 ∧ 0 ≤ B 2000000000 0 ∧ 0 ≤ B 2000000000 1) ∧ Q (.inr "java/lang/IllegalArgumentException") (thC B)) ∧ (x1 ≥ 0 → (x1 ≥ 4 → (B 2000000000 (-1) = 0 ∧ 0 ≤ B 2000000000 0 ∧ 0 ≤ B 2000000000 1) ∧ Q (.inr "java/lang/IllegalArgumentException") (thC B)) ∧ (x1 < 4 → 0 ≤ x1 ∧ x1 < 4 ∧ Q (.inl (some (.ref (if 4 = 4 then 75 + 2 * x1.toNat else if x1.toNat = 0 then 1 else 2 + 9 * x1.toNat)))) B))
theorem c_P_textAt_0_ok {h1 : qH} {d : Nat} {x1 : Int} {B : qB} {Q : qO → qB → Prop} (hd : 0 ≤ d) (hS : SH B) (w : c_P_textAt_0 h1 d x1 B Q) : qY h1 (d + 1) n_P_textAt 0 [some (.ref 0), some (iv x1)] [] B Q := by
  unfold c_P_textAt_0 at w
  obtain ⟨p1, w⟩ := w
  refine y_ldk (ok := q_isI) (n := 1) (ck_at dt_P_textAt 0 rfl) rfl rfl (fun _ => rfl) rfl rfl ?_
  refine y_ifz (t := 22) (ck_at dt_P_textAt 1 rfl) rfl p1 ?_ ?_
  · intro q; have w := w.1 q
    exact y_throw (st := []) (E := "java/lang/IllegalArgumentException") (ck_at dt_P_textAt 12 rfl) (mem_110 own_P_textAt) (th_P_textAt_22 []) w
  · intro q; have w := w.2 q
    refine y_ldk (ok := q_isI) (n := 1) (ck_at dt_P_textAt 2 rfl) rfl rfl (fun _ => rfl) rfl rfl ?_
    refine y_ldk (ok := q_isA) (n := 0) (ck_at dt_P_textAt 3 rfl) rfl rfl (fun _ => rfl) rfl rfl ?_
    refine y_getF (r := 74) (K := 10) (j := 1) (a := 0) (ck_at dt_P_textAt 4 rfl) own_P_textAt (cf_at 51 rfl) rfl rfl ⟨(SH.o hS ⟨by decide, by decide, by decide⟩), ?_⟩
    refine y_alen (ck_at dt_P_textAt 5 rfl) ⟨4, 4, (SH.a (t := 4) (a := 74) (n := 4) hS ⟨by decide, by decide, by decide, by decide⟩), (by decide), ?_⟩
    refine y_icmp (t := 22) (ck_at dt_P_textAt 6 rfl) rfl p1 ⟨by decide, by decide⟩ ?_ ?_
    · intro q; have w := w.1 q
      exact y_throw (st := []) (E := "java/lang/IllegalArgumentException") (ck_at dt_P_textAt 12 rfl) (mem_110 own_P_textAt) (th_P_textAt_22 []) w
    · intro q; have w := w.2 q
      obtain ⟨p2, p3, w⟩ := w
      refine y_ldk (ok := q_isA) (n := 0) (ck_at dt_P_textAt 7 rfl) rfl rfl (fun _ => rfl) rfl rfl ?_
      refine y_getF (r := 74) (K := 10) (j := 1) (a := 0) (ck_at dt_P_textAt 8 rfl) own_P_textAt (cf_at 51 rfl) rfl rfl ⟨(SH.o hS ⟨by decide, by decide, by decide⟩), ?_⟩
      refine y_ldk (ok := q_isI) (n := 1) (ck_at dt_P_textAt 9 rfl) rfl rfl (fun _ => rfl) rfl rfl ?_
      refine y_aald (t := 4) (ck_at dt_P_textAt 10 rfl) (by decide) ⟨4, (SH.a (t := 4) (a := 74) (n := 4) hS ⟨by decide, by decide, by decide, by decide⟩), (by decide), p2, p3, ?_⟩
      refine y_ifnn (t := 33) (ck_at dt_P_textAt 11 rfl) rfl ?_
      refine y_ldk (ok := q_isA) (n := 0) (ck_at dt_P_textAt 17 rfl) rfl rfl (fun _ => rfl) rfl rfl ?_
      refine y_getF (r := 74) (K := 10) (j := 1) (a := 0) (ck_at dt_P_textAt 18 rfl) own_P_textAt (cf_at 51 rfl) rfl rfl ⟨(SH.o hS ⟨by decide, by decide, by decide⟩), ?_⟩
      refine y_ldk (ok := q_isI) (n := 1) (ck_at dt_P_textAt 19 rfl) rfl rfl (fun _ => rfl) rfl rfl ?_
      refine y_aald (t := 4) (ck_at dt_P_textAt 20 rfl) (by decide) ⟨4, (SH.a (t := 4) (a := 74) (n := 4) hS ⟨by decide, by decide, by decide, by decide⟩), (by decide), p2, p3, ?_⟩
      exact y_retR (ck_at dt_P_textAt 21 rfl) rt_P_textAt rfl w
/-! PatternTrier.needPart(I)V -/
def t_P_needPart : List (Nat × Instr × Nat) := [(0, .iload_n 0, 1), (1, .ifCond .lt 8, 3), (4, .iload_n 0, 1), (5, .iconst 1, 1), (6, .if_icmp .le 14, 3), (9, .new 110, 3), (12, .dup, 1), (13, .ldc_w 263, 3), (16, .invokespecial 114, 3), (19, .athrow, 1), (20, .return_, 1)]
set_option maxRecDepth 100000 in
theorem dt_P_needPart : q_ck n_P_needPart t_P_needPart = true := by decide +kernel
set_option maxRecDepth 100000 in
theorem th_P_needPart_9 (st : List Value) : q_throw (q_ms n_P_needPart).2.1 (q_ms n_P_needPart).2.2.1 9 (.new 110) [] = some "java/lang/IllegalArgumentException" := by decide +kernel
def c_P_needPart_0 (h1 : qH) (d : Nat) (x0 : Int) (B : qB) (Q : qO → qB → Prop) : Prop := R32 x0 ∧ (x0 < 0 → (B 2000000000 (-1) = 0 ∧ 0 ≤ B 2000000000 0 ∧ 0 ≤ B 2000000000 1) ∧ Q (.inr "java/lang/IllegalArgumentException") (thC B)) ∧ (x0 ≥ 0 → (x0 ≤ 1 → Q (.inl none) B) ∧ (x0 > 1 → (B 2000000000 (-1) = 0 ∧ 0 ≤ B 2000000000 0 ∧ 0 ≤ B 2000000000 1) ∧ Q (.inr "java/lang/IllegalArgumentException") (thC B)))
theorem c_P_needPart_0_ok {h1 : qH} {d : Nat} {x0 : Int} {B : qB} {Q : qO → qB → Prop} (hd : 0 ≤ d) (hS : SH B) (w : c_P_needPart_0 h1 d x0 B Q) : qY h1 (d + 1) n_P_needPart 0 [some (iv x0)] [] B Q := by
  unfold c_P_needPart_0 at w
  obtain ⟨p1, w⟩ := w
  refine y_ldk (ok := q_isI) (n := 0) (ck_at dt_P_needPart 0 rfl) rfl rfl (fun _ => rfl) rfl rfl ?_
  refine y_ifz (t := 9) (ck_at dt_P_needPart 1 rfl) rfl p1 ?_ ?_
  · intro q; have w := w.1 q
    exact y_throw (st := []) (E := "java/lang/IllegalArgumentException") (ck_at dt_P_needPart 5 rfl) (mem_110 own_P_needPart) (th_P_needPart_9 []) w
  · intro q; have w := w.2 q
    refine y_ldk (ok := q_isI) (n := 0) (ck_at dt_P_needPart 2 rfl) rfl rfl (fun _ => rfl) rfl rfl ?_
    refine y_op (ck_at dt_P_needPart 3 rfl) rfl (o_const _) ?_
    refine y_icmp (t := 20) (ck_at dt_P_needPart 4 rfl) rfl p1 ⟨by decide, by decide⟩ ?_ ?_
    · intro q; have w := w.1 q
      exact y_ret0 (ck_at dt_P_needPart 10 rfl) rt_P_needPart w
    · intro q; have w := w.2 q
      exact y_throw (st := []) (E := "java/lang/IllegalArgumentException") (ck_at dt_P_needPart 5 rfl) (mem_110 own_P_needPart) (th_P_needPart_9 []) w
/-! PatternTrier.needPattern(LPatternTrier$Program;)V -/
def t_P_needPattern : List (Nat × Instr × Nat) := [(0, .aload_n 0, 1), (1, .invokevirtual 150, 3), (4, .iconst (-1), 1), (5, .if_icmp .ne 14, 3), (8, .new 265, 3), (11, .dup, 1), (12, .ldc_w 267, 3), (15, .invokespecial 269, 3), (18, .athrow, 1), (19, .return_, 1)]
set_option maxRecDepth 100000 in
theorem dt_P_needPattern : q_ck n_P_needPattern t_P_needPattern = true := by decide +kernel
set_option maxRecDepth 100000 in
theorem th_P_needPattern_8 (st : List Value) : q_throw (q_ms n_P_needPattern).2.1 (q_ms n_P_needPattern).2.2.1 8 (.new 265) [] = some "java/util/NoSuchElementException" := by decide +kernel
def c_P_needPattern_0 (h1 : qH) (d : Nat) (a0 : Nat) (B : qB) (Q : qO → qB → Prop) : Prop := R32 (B a0 10) ∧ (¬ B a0 10 = (-1) → Q (.inl none) B) ∧ (B a0 10 = (-1) → (B 2000000000 (-1) = 0 ∧ 0 ≤ B 2000000000 0 ∧ 0 ≤ B 2000000000 1) ∧ Q (.inr "java/util/NoSuchElementException") (thC B))
theorem c_P_needPattern_0_ok {h1 : qH} {d : Nat} {a0 : Nat} {B : qB} {Q : qO → qB → Prop} (hd : 1 ≤ d) (hS : SH B) (ha0 : ob 5 a0) (w : c_P_needPattern_0 h1 d a0 B Q) : qY h1 (d + 1) n_P_needPattern 0 [some (.ref a0)] [] B Q := by
  unfold c_P_needPattern_0 at w
  obtain ⟨p1, w⟩ := w
  refine y_ldk (ok := q_isA) (n := 0) (ck_at dt_P_needPattern 0 rfl) rfl rfl (fun _ => rfl) rfl rfl ?_
  refine y_virtP (k' := n_Pr_weight) (n := 0) (as := []) (r := []) (ck_at dt_P_needPattern 1 rfl) own_P_needPattern (cm_at 137 rfl) vk_Pr_weight rfl nl_Pr_weight rfl rfl rfl rfl (SH.o hS ha0) (Y_Pr_weight (by omega) hS ha0 ⟨rfl, rfl⟩) ?_
  refine y_op (ck_at dt_P_needPattern 2 rfl) rfl (o_const _) ?_
  refine y_icmp (t := 19) (ck_at dt_P_needPattern 3 rfl) rfl p1 ⟨by decide, by decide⟩ ?_ ?_
  · intro q; have w := w.1 q
    exact y_ret0 (ck_at dt_P_needPattern 9 rfl) rt_P_needPattern w
  · intro q; have w := w.2 q
    exact y_throw (st := []) (E := "java/util/NoSuchElementException") (ck_at dt_P_needPattern 4 rfl) (mem_265 own_P_needPattern) (th_P_needPattern_8 []) w
/-! PatternTrier.needShort(LPatternTrier$Bytes;)V -/
def t_P_needShort : List (Nat × Instr × Nat) := [(0, .aload_n 0, 1), (1, .invokevirtual 107, 3), (4, .sipush 300, 3), (7, .if_icmp .le 14, 3), (10, .new 97, 3), (13, .dup, 1), (14, .ldc_w 270, 3), (17, .invokespecial 101, 3), (20, .athrow, 1), (21, .return_, 1)]
set_option maxRecDepth 100000 in
theorem dt_P_needShort : q_ck n_P_needShort t_P_needShort = true := by decide +kernel
set_option maxRecDepth 100000 in
theorem th_P_needShort_10 (st : List Value) : q_throw (q_ms n_P_needShort).2.1 (q_ms n_P_needShort).2.2.1 10 (.new 97) [] = some "java/lang/IndexOutOfBoundsException" := by decide +kernel
def c_P_needShort_0 (h1 : qH) (d : Nat) (a0 : Nat) (B : qB) (Q : qO → qB → Prop) : Prop := R32 (B a0 1) ∧ (B a0 1 ≤ 300 → Q (.inl none) B) ∧ (B a0 1 > 300 → (B 2000000000 (-1) = 0 ∧ 0 ≤ B 2000000000 0 ∧ 0 ≤ B 2000000000 1) ∧ Q (.inr "java/lang/IndexOutOfBoundsException") (thC B))
theorem c_P_needShort_0_ok {h1 : qH} {d : Nat} {a0 : Nat} {B : qB} {Q : qO → qB → Prop} (hd : 1 ≤ d) (hS : SH B) (ha0 : ob 1 a0) (w : c_P_needShort_0 h1 d a0 B Q) : qY h1 (d + 1) n_P_needShort 0 [some (.ref a0)] [] B Q := by
  unfold c_P_needShort_0 at w
  obtain ⟨p1, w⟩ := w
  refine y_ldk (ok := q_isA) (n := 0) (ck_at dt_P_needShort 0 rfl) rfl rfl (fun _ => rfl) rfl rfl ?_
  refine y_virtP (k' := n_By_size) (n := 0) (as := []) (r := []) (ck_at dt_P_needShort 1 rfl) own_P_needShort (cm_at 128 rfl) vk_By_size rfl nl_By_size rfl rfl rfl rfl (SH.o hS ha0) (Y_By_size (by omega) hS ha0 ⟨rfl, rfl⟩) ?_
  refine y_op (ck_at dt_P_needShort 2 rfl) rfl (o_sipush _ (by decide)) ?_
  refine y_icmp (t := 21) (ck_at dt_P_needShort 3 rfl) rfl p1 ⟨by decide, by decide⟩ ?_ ?_
  · intro q; have w := w.1 q
    exact y_ret0 (ck_at dt_P_needShort 9 rfl) rt_P_needShort w
  · intro q; have w := w.2 q
    exact y_throw (st := []) (E := "java/lang/IndexOutOfBoundsException") (ck_at dt_P_needShort 4 rfl) (mem_97 own_P_needShort) (th_P_needShort_10 []) w
