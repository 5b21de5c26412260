/-! PatternTrier$Builder.buildPart(IIII)I -/
def t_Bu_buildPart : List (Nat × Instr × Nat) := [(0, .iload 4, 2), (2, .bipush 10, 2), (4, .if_icmp .le 5, 3), (7, .iload_n 2, 1), (8, .ireturn, 1), (9, .aload_n 0, 1), (10, .getfield 9, 3), (13, .iload_n 1, 1), (14, .invokevirtual 54, 3), (17, .istore 5, 2), (19, .iload 5, 2), (21, .tableswitch 84 7 11 #[74, 74, 45, 55, 35], 35), (56, .aload_n 0, 1), (57, .iload_n 1, 1), (58, .iload_n 2, 1), (59, .iload_n 3, 1), (60, .iload 4, 2), (62, .invokevirtual 57, 3), (65, .ireturn, 1), (66, .aload_n 0, 1), (67, .iload_n 1, 1), (68, .iload_n 2, 1), (69, .iload_n 3, 1), (70, .iload 4, 2), (72, .invokevirtual 60, 3), (75, .ireturn, 1), (76, .aload_n 0, 1), (77, .aload_n 0, 1), (78, .getfield 9, 3), (81, .iload_n 1, 1), (82, .invokevirtual 32, 3), (85, .iload_n 2, 1), (86, .iload_n 3, 1), (87, .iload 4, 2), (89, .iconst 1, 1), (90, .iadd, 1), (91, .invokevirtual 24, 3), (94, .ireturn, 1), (95, .aload_n 0, 1), (96, .iload_n 1, 1), (97, .iload_n 2, 1), (98, .iload_n 3, 1), (99, .iload 4, 2), (101, .invokevirtual 63, 3), (104, .ireturn, 1), (105, .aload_n 0, 1), (106, .getfield 15, 3), (109, .iload 5, 2), (111, .aload_n 0, 1), (112, .getfield 9, 3), (115, .iload_n 1, 1), (116, .invokevirtual 66, 3), (119, .iload_n 2, 1), (120, .iload_n 3, 1), (121, .invokevirtual 44, 3), (124, .ireturn, 1)]
set_option maxRecDepth 100000 in
theorem dt_Bu_buildPart : q_ck n_Bu_buildPart t_Bu_buildPart = true := by decide +kernel
def c_Bu_buildPart_104 (h1 : qH) (d : Nat) (s0 : Int) (B : qB) (Q : qO → qB → Prop) : Prop := Q (.inl (some (iv s0))) B
theorem c_Bu_buildPart_104_ok {h1 : qH} {d : Nat} {s0 : Int} {B : qB} {Q : qO → qB → Prop} (hd : 2 ≤ d) (hS : SH B) (w : c_Bu_buildPart_104 h1 d s0 B Q) : qY h1 (d + 1) n_Bu_buildPart 104 [none, none, none, none, none, none] [iv s0] B Q := by
  unfold c_Bu_buildPart_104 at w
  exact y_retI (ck_at dt_Bu_buildPart 44 rfl) rt_Bu_buildPart w
def c_Bu_buildPart_95 (h1 : qH) (d : Nat) (x1 : Int) (x2 : Int) (x3 : Int) (x4 : Int) (B : qB) (Q : qO → qB → Prop) : Prop := qY h1 d n_Bu_buildAhead 0 [some (.ref 101), some (iv x1), some (iv x2), some (iv x3), some (iv x4), none] [] B (fun o B' => ∃ v : Int, o = .inl (some (iv v)) ∧ SH B' ∧ c_Bu_buildPart_104 h1 d v B' Q)
theorem c_Bu_buildPart_95_ok {h1 : qH} {d : Nat} {x1 : Int} {x2 : Int} {x3 : Int} {x4 : Int} {B : qB} {Q : qO → qB → Prop} (hd : 2 ≤ d) (hS : SH B) (w : c_Bu_buildPart_95 h1 d x1 x2 x3 x4 B Q) : qY h1 (d + 1) n_Bu_buildPart 95 [some (.ref 101), some (iv x1), some (iv x2), some (iv x3), some (iv x4), none] [] B Q := by
  unfold c_Bu_buildPart_95 at w
  refine y_ldk (ok := q_isA) (n := 0) (ck_at dt_Bu_buildPart 38 rfl) rfl rfl (fun _ => rfl) rfl rfl ?_
  refine y_ldk (ok := q_isI) (n := 1) (ck_at dt_Bu_buildPart 39 rfl) rfl rfl (fun _ => rfl) rfl rfl ?_
  refine y_ldk (ok := q_isI) (n := 2) (ck_at dt_Bu_buildPart 40 rfl) rfl rfl (fun _ => rfl) rfl rfl ?_
  refine y_ldk (ok := q_isI) (n := 3) (ck_at dt_Bu_buildPart 41 rfl) rfl rfl (fun _ => rfl) rfl rfl ?_
  refine y_ldk (ok := q_isI) (n := 4) (ck_at dt_Bu_buildPart 42 rfl) rfl rfl (fun _ => rfl) rfl rfl ?_
  refine y_virt (k' := n_Bu_buildAhead) (n := 1) (as := [iv x1, iv x2, iv x3, iv x4]) (r := []) (ck_at dt_Bu_buildPart 43 rfl) own_Bu_buildPart (cm_at 12 rfl) vk_Bu_buildAhead rfl nl_Bu_buildAhead rfl rfl rfl rfl ⟨(SH.o hS ⟨by decide, by decide, by decide⟩), ?_⟩
  exact w.mono (Nat.le_refl _) (fun o B' ⟨v, ho, hS', w⟩ => Or.inl ⟨some (iv v), ho, y_wk (c_Bu_buildPart_104_ok (by omega) hS' w) trivial⟩)
def c_Bu_buildPart_94 (h1 : qH) (d : Nat) (s0 : Int) (B : qB) (Q : qO → qB → Prop) : Prop := Q (.inl (some (iv s0))) B
theorem c_Bu_buildPart_94_ok {h1 : qH} {d : Nat} {s0 : Int} {B : qB} {Q : qO → qB → Prop} (hd : 2 ≤ d) (hS : SH B) (w : c_Bu_buildPart_94 h1 d s0 B Q) : qY h1 (d + 1) n_Bu_buildPart 94 [none, none, none, none, none, none] [iv s0] B Q := by
  unfold c_Bu_buildPart_94 at w
  exact y_retI (ck_at dt_Bu_buildPart 37 rfl) rt_Bu_buildPart w
def c_Bu_buildPart_75 (h1 : qH) (d : Nat) (s0 : Int) (B : qB) (Q : qO → qB → Prop) : Prop := Q (.inl (some (iv s0))) B
theorem c_Bu_buildPart_75_ok {h1 : qH} {d : Nat} {s0 : Int} {B : qB} {Q : qO → qB → Prop} (hd : 2 ≤ d) (hS : SH B) (w : c_Bu_buildPart_75 h1 d s0 B Q) : qY h1 (d + 1) n_Bu_buildPart 75 [none, none, none, none, none, none] [iv s0] B Q := by
  unfold c_Bu_buildPart_75 at w
  exact y_retI (ck_at dt_Bu_buildPart 25 rfl) rt_Bu_buildPart w
def c_Bu_buildPart_65 (h1 : qH) (d : Nat) (s0 : Int) (B : qB) (Q : qO → qB → Prop) : Prop := Q (.inl (some (iv s0))) B
theorem c_Bu_buildPart_65_ok {h1 : qH} {d : Nat} {s0 : Int} {B : qB} {Q : qO → qB → Prop} (hd : 2 ≤ d) (hS : SH B) (w : c_Bu_buildPart_65 h1 d s0 B Q) : qY h1 (d + 1) n_Bu_buildPart 65 [none, none, none, none, none, none] [iv s0] B Q := by
  unfold c_Bu_buildPart_65 at w
  exact y_retI (ck_at dt_Bu_buildPart 18 rfl) rt_Bu_buildPart w
def c_Bu_buildPart_0 (h1 : qH) (d : Nat) (x1 : Int) (x2 : Int) (x3 : Int) (x4 : Int) (B : qB) (Q : qO → qB → Prop) : Prop := R32 x4 ∧ (x4 ≤ 10 → 0 ≤ x1 ∧ x1 < 408 ∧ R32 (B 91 x1) ∧ (B 91 x1 = 7 → c_Bu_buildPart_95 h1 d x1 x2 x3 x4 B Q) ∧ (B 91 x1 = 8 → c_Bu_buildPart_95 h1 d x1 x2 x3 x4 B Q) ∧ (B 91 x1 = 9 → qY h1 d n_Bu_buildGroup 0 [some (.ref 101), some (iv x1), some (iv x2), some (iv x3), some (iv x4), none, none, none] [] B (fun o B' => ∃ v : Int, o = .inl (some (iv v)) ∧ SH B' ∧ c_Bu_buildPart_75 h1 d v B' Q)) ∧ (B 91 x1 = 10 → qY h1 d n_Bu_buildWays 0 [some (.ref 101), some (iv (B 93 x1)), some (iv x2), some (iv x3), some (iv (x4 + 1)), none, none, none, none] [] B (fun o B' => ∃ v : Int, o = .inl (some (iv v)) ∧ SH B' ∧ c_Bu_buildPart_94 h1 d v B' Q)) ∧ (B 91 x1 = 11 → qY h1 d n_Bu_buildRounds 0 [some (.ref 101), some (iv x1), some (iv x2), some (iv x3), some (iv x4), none, none] [] B (fun o B' => ∃ v : Int, o = .inl (some (iv v)) ∧ SH B' ∧ c_Bu_buildPart_65 h1 d v B' Q)) ∧ (¬ B 91 x1 = 7 → ¬ B 91 x1 = 8 → ¬ B 91 x1 = 9 → ¬ B 91 x1 = 10 → ¬ B 91 x1 = 11 → ob 5 ((B 101 1).toNat) ∧ 0 ≤ B ((B 101 1).toNat) 7 ∧ B ((B 101 1).toNat) 7 < 608 ∧ Q (.inl (some (iv (B ((B 101 1).toNat) 7)))) (paC B ((B 101 1).toNat) (B 91 x1) (B 92 x1) x2 x3))) ∧ (x4 > 10 → Q (.inl (some (iv x2))) B)
theorem c_Bu_buildPart_0_ok {h1 : qH} {d : Nat} {x1 : Int} {x2 : Int} {x3 : Int} {x4 : Int} {B : qB} {Q : qO → qB → Prop} (hd : 2 ≤ d) (hS : SH B) (w : c_Bu_buildPart_0 h1 d x1 x2 x3 x4 B Q) : qY h1 (d + 1) n_Bu_buildPart 0 [some (.ref 101), some (iv x1), some (iv x2), some (iv x3), some (iv x4), none] [] B Q := by
  unfold c_Bu_buildPart_0 at w
  obtain ⟨p1, w⟩ := w
  refine y_ldk (ok := q_isI) (n := 4) (ck_at dt_Bu_buildPart 0 rfl) rfl rfl (fun _ => rfl) rfl rfl ?_
  refine y_op (ck_at dt_Bu_buildPart 1 rfl) rfl (o_bipush _ (by decide)) ?_
  refine y_icmp (t := 9) (ck_at dt_Bu_buildPart 2 rfl) rfl p1 ⟨by decide, by decide⟩ ?_ ?_
  · intro q; have w := w.1 q
    obtain ⟨p2, p3, p4, w⟩ := w
    refine y_ldk (ok := q_isA) (n := 0) (ck_at dt_Bu_buildPart 5 rfl) rfl rfl (fun _ => rfl) rfl rfl ?_
    refine y_getF (r := 90) (K := 0) (j := 0) (a := 101) (ck_at dt_Bu_buildPart 6 rfl) own_Bu_buildPart (cf_at 0 rfl) rfl rfl ⟨(SH.o hS ⟨by decide, by decide, by decide⟩), ?_⟩
    refine y_ldk (ok := q_isI) (n := 1) (ck_at dt_Bu_buildPart 7 rfl) rfl rfl (fun _ => rfl) rfl rfl ?_
    refine y_virtP (k' := n_Tr_kindOf) (n := 0) (as := [iv x1]) (r := []) (ck_at dt_Bu_buildPart 8 rfl) own_Bu_buildPart (cm_at 9 rfl) vk_Tr_kindOf rfl nl_Tr_kindOf rfl rfl rfl rfl (SH.o hS ⟨by decide, by decide, by decide⟩) (Y_Tr_kindOf (by omega) hS p2 p3 ⟨rfl, rfl⟩) ?_
    refine y_st1 (ok := q_isI) (n := 5) (L' := [some (.ref 101), some (iv x1), some (iv x2), some (iv x3), some (iv x4), some (iv (B 91 x1))]) (ck_at dt_Bu_buildPart 9 rfl) rfl (fun _ => rfl) (fun _ _ => rfl) rfl nl_Bu_buildPart (by decide) rfl rfl ?_
    refine y_ldk (ok := q_isI) (n := 5) (ck_at dt_Bu_buildPart 10 rfl) rfl rfl (fun _ => rfl) rfl rfl ?_
    have hx := p4
    by_cases q0 : B 91 x1 = 7
    · have w := w.1 q0
      refine y_swc (c := 7) (t := 95) (ck_at dt_Bu_buildPart 11 rfl) rfl (fun _ => rfl) (fun _ _ => rfl) q0 rfl ?_
      exact y_wk (c_Bu_buildPart_95_ok (by omega) hS w) ⟨rfl, ⟨rfl, ⟨rfl, ⟨rfl, ⟨rfl, trivial⟩⟩⟩⟩⟩
    by_cases q1 : B 91 x1 = 8
    · have w := w.2.1 q1
      refine y_swc (c := 8) (t := 95) (ck_at dt_Bu_buildPart 11 rfl) rfl (fun _ => rfl) (fun _ _ => rfl) q1 rfl ?_
      exact y_wk (c_Bu_buildPart_95_ok (by omega) hS w) ⟨rfl, ⟨rfl, ⟨rfl, ⟨rfl, ⟨rfl, trivial⟩⟩⟩⟩⟩
    by_cases q2 : B 91 x1 = 9
    · have w := w.2.2.1 q2
      refine y_swc (c := 9) (t := 66) (ck_at dt_Bu_buildPart 11 rfl) rfl (fun _ => rfl) (fun _ _ => rfl) q2 rfl ?_
      refine y_ldk (ok := q_isA) (n := 0) (ck_at dt_Bu_buildPart 19 rfl) rfl rfl (fun _ => rfl) rfl rfl ?_
      refine y_ldk (ok := q_isI) (n := 1) (ck_at dt_Bu_buildPart 20 rfl) rfl rfl (fun _ => rfl) rfl rfl ?_
      refine y_ldk (ok := q_isI) (n := 2) (ck_at dt_Bu_buildPart 21 rfl) rfl rfl (fun _ => rfl) rfl rfl ?_
      refine y_ldk (ok := q_isI) (n := 3) (ck_at dt_Bu_buildPart 22 rfl) rfl rfl (fun _ => rfl) rfl rfl ?_
      refine y_ldk (ok := q_isI) (n := 4) (ck_at dt_Bu_buildPart 23 rfl) rfl rfl (fun _ => rfl) rfl rfl ?_
      refine y_virt (k' := n_Bu_buildGroup) (n := 3) (as := [iv x1, iv x2, iv x3, iv x4]) (r := []) (ck_at dt_Bu_buildPart 24 rfl) own_Bu_buildPart (cm_at 11 rfl) vk_Bu_buildGroup rfl nl_Bu_buildGroup rfl rfl rfl rfl ⟨(SH.o hS ⟨by decide, by decide, by decide⟩), ?_⟩
      exact w.mono (Nat.le_refl _) (fun o B' ⟨v, ho, hS', w⟩ => Or.inl ⟨some (iv v), ho, y_wk (c_Bu_buildPart_75_ok (by omega) hS' w) trivial⟩)
    by_cases q3 : B 91 x1 = 10
    · have w := w.2.2.2.1 q3
      refine y_swc (c := 10) (t := 76) (ck_at dt_Bu_buildPart 11 rfl) rfl (fun _ => rfl) (fun _ _ => rfl) q3 rfl ?_
      refine y_ldk (ok := q_isA) (n := 0) (ck_at dt_Bu_buildPart 26 rfl) rfl rfl (fun _ => rfl) rfl rfl ?_
      refine y_ldk (ok := q_isA) (n := 0) (ck_at dt_Bu_buildPart 27 rfl) rfl rfl (fun _ => rfl) rfl rfl ?_
      refine y_getF (r := 90) (K := 0) (j := 0) (a := 101) (ck_at dt_Bu_buildPart 28 rfl) own_Bu_buildPart (cf_at 0 rfl) rfl rfl ⟨(SH.o hS ⟨by decide, by decide, by decide⟩), ?_⟩
      refine y_ldk (ok := q_isI) (n := 1) (ck_at dt_Bu_buildPart 29 rfl) rfl rfl (fun _ => rfl) rfl rfl ?_
      refine y_virtP (k' := n_Tr_innerOf) (n := 0) (as := [iv x1]) (r := [.ref 101]) (ck_at dt_Bu_buildPart 30 rfl) own_Bu_buildPart (cm_at 3 rfl) vk_Tr_innerOf rfl nl_Tr_innerOf rfl rfl rfl rfl (SH.o hS ⟨by decide, by decide, by decide⟩) (Y_Tr_innerOf (by omega) hS p2 p3 ⟨rfl, rfl⟩) ?_
      refine y_ldk (ok := q_isI) (n := 2) (ck_at dt_Bu_buildPart 31 rfl) rfl rfl (fun _ => rfl) rfl rfl ?_
      refine y_ldk (ok := q_isI) (n := 3) (ck_at dt_Bu_buildPart 32 rfl) rfl rfl (fun _ => rfl) rfl rfl ?_
      refine y_ldk (ok := q_isI) (n := 4) (ck_at dt_Bu_buildPart 33 rfl) rfl rfl (fun _ => rfl) rfl rfl ?_
      refine y_op (ck_at dt_Bu_buildPart 34 rfl) rfl (o_const _) ?_
      refine y_op (ck_at dt_Bu_buildPart 35 rfl) rfl o_iadd ?_
      refine y_virt (k' := n_Bu_buildWays) (n := 4) (as := [iv (B 93 x1), iv x2, iv x3, iv (x4 + 1)]) (r := []) (ck_at dt_Bu_buildPart 36 rfl) own_Bu_buildPart (cm_at 1 rfl) vk_Bu_buildWays rfl nl_Bu_buildWays rfl rfl rfl rfl ⟨(SH.o hS ⟨by decide, by decide, by decide⟩), ?_⟩
      exact w.mono (Nat.le_refl _) (fun o B' ⟨v, ho, hS', w⟩ => Or.inl ⟨some (iv v), ho, y_wk (c_Bu_buildPart_94_ok (by omega) hS' w) trivial⟩)
    by_cases q4 : B 91 x1 = 11
    · have w := w.2.2.2.2.1 q4
      refine y_swc (c := 11) (t := 56) (ck_at dt_Bu_buildPart 11 rfl) rfl (fun _ => rfl) (fun _ _ => rfl) q4 rfl ?_
      refine y_ldk (ok := q_isA) (n := 0) (ck_at dt_Bu_buildPart 12 rfl) rfl rfl (fun _ => rfl) rfl rfl ?_
      refine y_ldk (ok := q_isI) (n := 1) (ck_at dt_Bu_buildPart 13 rfl) rfl rfl (fun _ => rfl) rfl rfl ?_
      refine y_ldk (ok := q_isI) (n := 2) (ck_at dt_Bu_buildPart 14 rfl) rfl rfl (fun _ => rfl) rfl rfl ?_
      refine y_ldk (ok := q_isI) (n := 3) (ck_at dt_Bu_buildPart 15 rfl) rfl rfl (fun _ => rfl) rfl rfl ?_
      refine y_ldk (ok := q_isI) (n := 4) (ck_at dt_Bu_buildPart 16 rfl) rfl rfl (fun _ => rfl) rfl rfl ?_
      refine y_virt (k' := n_Bu_buildRounds) (n := 2) (as := [iv x1, iv x2, iv x3, iv x4]) (r := []) (ck_at dt_Bu_buildPart 17 rfl) own_Bu_buildPart (cm_at 10 rfl) vk_Bu_buildRounds rfl nl_Bu_buildRounds rfl rfl rfl rfl ⟨(SH.o hS ⟨by decide, by decide, by decide⟩), ?_⟩
      exact w.mono (Nat.le_refl _) (fun o B' ⟨v, ho, hS', w⟩ => Or.inl ⟨some (iv v), ho, y_wk (c_Bu_buildPart_65_ok (by omega) hS' w) trivial⟩)
    have w := w.2.2.2.2.2 q0 q1 q2 q3 q4
    refine y_tswd (t := 105) (ck_at dt_Bu_buildPart 11 rfl) hx (by omega) rfl ?_
    obtain ⟨p5, p6, p7, w⟩ := w
    refine y_ldk (ok := q_isA) (n := 0) (ck_at dt_Bu_buildPart 45 rfl) rfl rfl (fun _ => rfl) rfl rfl ?_
    refine y_getD (K := 0) (j := 1) (a := 101) (ck_at dt_Bu_buildPart 46 rfl) own_Bu_buildPart (cf_at 1 rfl) rfl rfl rfl ⟨(SH.o hS ⟨by decide, by decide, by decide⟩), ?_⟩
    refine y_ldk (ok := q_isI) (n := 5) (ck_at dt_Bu_buildPart 47 rfl) rfl rfl (fun _ => rfl) rfl rfl ?_
    refine y_ldk (ok := q_isA) (n := 0) (ck_at dt_Bu_buildPart 48 rfl) rfl rfl (fun _ => rfl) rfl rfl ?_
    refine y_getF (r := 90) (K := 0) (j := 0) (a := 101) (ck_at dt_Bu_buildPart 49 rfl) own_Bu_buildPart (cf_at 0 rfl) rfl rfl ⟨(SH.o hS ⟨by decide, by decide, by decide⟩), ?_⟩
    refine y_ldk (ok := q_isI) (n := 1) (ck_at dt_Bu_buildPart 50 rfl) rfl rfl (fun _ => rfl) rfl rfl ?_
    refine y_virtP (k' := n_Tr_valueOf) (n := 0) (as := [iv x1]) (r := [iv (B 91 x1), .ref ((B 101 1).toNat)]) (ck_at dt_Bu_buildPart 51 rfl) own_Bu_buildPart (cm_at 13 rfl) vk_Tr_valueOf rfl nl_Tr_valueOf rfl rfl rfl rfl (SH.o hS ⟨by decide, by decide, by decide⟩) (Y_Tr_valueOf (by omega) hS p2 p3 ⟨rfl, rfl⟩) ?_
    refine y_ldk (ok := q_isI) (n := 2) (ck_at dt_Bu_buildPart 52 rfl) rfl rfl (fun _ => rfl) rfl rfl ?_
    refine y_ldk (ok := q_isI) (n := 3) (ck_at dt_Bu_buildPart 53 rfl) rfl rfl (fun _ => rfl) rfl rfl ?_
    refine y_virtP (k' := n_Pr_add) (n := 1) (as := [iv (B 91 x1), iv (B 92 x1), iv x2, iv x3]) (r := []) (ck_at dt_Bu_buildPart 54 rfl) own_Bu_buildPart (cm_at 6 rfl) vk_Pr_add rfl nl_Pr_add rfl rfl rfl rfl (SH.o hS p5) (Y_Pr_add (by omega) hS p5 p6 p7 p4 ⟨rfl, rfl⟩) ?_
    have hS8 : SH (paC B ((B 101 1).toNat) (B 91 x1) (B 92 x1) x2 x3) := S_Pr_add hS p5 p6 p7 p4
    exact y_retI (ck_at dt_Bu_buildPart 55 rfl) rt_Bu_buildPart w
  · intro q; have w := w.2 q
    refine y_ldk (ok := q_isI) (n := 2) (ck_at dt_Bu_buildPart 3 rfl) rfl rfl (fun _ => rfl) rfl rfl ?_
    exact y_retI (ck_at dt_Bu_buildPart 4 rfl) rt_Bu_buildPart w
/-! PatternTrier$Builder.buildWays(IIII)I -/
def t_Bu_buildWays : List (Nat × Instr × Nat) := [(0, .aload_n 0, 1), (1, .getfield 9, 3), (4, .iload_n 1, 1), (5, .invokevirtual 32, 3), (8, .istore 5, 2), (10, .aload_n 0, 1), (11, .iload 5, 2), (13, .iload_n 2, 1), (14, .iload_n 3, 1), (15, .iload 4, 2), (17, .invokevirtual 38, 3), (20, .istore 6, 2), (22, .iconst 0, 1), (23, .istore 7, 2), (25, .iload 7, 2), (27, .sipush 200, 3), (30, .if_icmp .ge 71, 3), (33, .aload_n 0, 1), (34, .getfield 9, 3), (37, .iload 5, 2), (39, .invokevirtual 41, 3), (42, .ifCond .eq 59, 3), (45, .aload_n 0, 1), (46, .getfield 9, 3), (49, .iload 5, 2), (51, .invokevirtual 41, 3), (54, .istore 5, 2), (56, .aload_n 0, 1), (57, .getfield 15, 3), (60, .bipush 15, 2), (62, .iconst 0, 1), (63, .iconst 0, 1), (64, .iload_n 3, 1), (65, .invokevirtual 44, 3), (68, .istore 8, 2), (70, .aload_n 0, 1), (71, .getfield 15, 3), (74, .iload 8, 2), (76, .aload_n 0, 1), (77, .iload 5, 2), (79, .iload_n 2, 1), (80, .iload_n 3, 1), (81, .iload 4, 2), (83, .invokevirtual 38, 3), (86, .iload 6, 2), (88, .invokevirtual 47, 3), (91, .iload 8, 2), (93, .istore 6, 2), (95, .iinc 7 1, 3), (98, .goto (-73), 3), (101, .iload 6, 2), (103, .ireturn, 1)]
set_option maxRecDepth 100000 in
theorem dt_Bu_buildWays : q_ck n_Bu_buildWays t_Bu_buildWays = true := by decide +kernel
def c_Bu_buildWays_86 (h1 : qH) (d : Nat) (x2 : Int) (x3 : Int) (x4 : Int) (x5 : Int) (x6 : Int) (x7 : Int) (x8 : Int) (r0 : Nat) (s1 : Int) (s2 : Int) (B : qB) (Q : qO → qB → Prop) : Prop := 0 ≤ s1 ∧ s1 < 608 ∧ qY h1 (d + 1) n_Bu_buildWays 25 [some (.ref 101), none, some (iv x2), some (iv x3), some (iv x4), some (iv x5), some (iv x8), some (iv (x7 + 1)), none] [] (u2 (u2 B (r0 + 3) s1 s2) (r0 + 4) s1 x6) Q
theorem c_Bu_buildWays_86_ok {h1 : qH} {d : Nat} {x2 : Int} {x3 : Int} {x4 : Int} {x5 : Int} {x6 : Int} {x7 : Int} {x8 : Int} {r0 : Nat} {s1 : Int} {s2 : Int} {B : qB} {Q : qO → qB → Prop} (hd : 2 ≤ d) (hS : SH B) (hr0 : ob 5 r0) (w : c_Bu_buildWays_86 h1 d x2 x3 x4 x5 x6 x7 x8 r0 s1 s2 B Q) : qY h1 (d + 1) n_Bu_buildWays 86 [some (.ref 101), none, some (iv x2), some (iv x3), some (iv x4), some (iv x5), some (iv x6), some (iv x7), some (iv x8)] [iv s2, iv s1, .ref r0] B Q := by
  unfold c_Bu_buildWays_86 at w
  obtain ⟨p1, p2, w⟩ := w
  refine y_ldk (ok := q_isI) (n := 6) (ck_at dt_Bu_buildWays 44 rfl) rfl rfl (fun _ => rfl) rfl rfl ?_
  refine y_virtV (k' := n_Pr_branch) (n := 0) (as := [iv s1, iv s2, iv x6]) (r := []) (ck_at dt_Bu_buildWays 45 rfl) own_Bu_buildWays (cm_at 7 rfl) vk_Pr_branch rfl nl_Pr_branch rfl rfl rfl rfl (SH.o hS hr0) (Y_Pr_branch (by omega) hS hr0 p1 p2 ⟨rfl, rfl⟩) ?_
  have hS3 := SH_u2 (b := r0 + 3) (x := s1) (z := s2) hS p1
  have hS4 := SH_u2 (b := r0 + 4) (x := s1) (z := x6) hS3 p1
  refine y_ldk (ok := q_isI) (n := 8) (ck_at dt_Bu_buildWays 46 rfl) rfl rfl (fun _ => rfl) rfl rfl ?_
  refine y_st1 (ok := q_isI) (n := 6) (L' := [some (.ref 101), none, some (iv x2), some (iv x3), some (iv x4), some (iv x5), some (iv x8), some (iv x7), some (iv x8)]) (ck_at dt_Bu_buildWays 47 rfl) rfl (fun _ => rfl) (fun _ _ => rfl) rfl nl_Bu_buildWays (by decide) rfl rfl ?_
  refine y_iinc (n := 7) (L' := [some (.ref 101), none, some (iv x2), some (iv x3), some (iv x4), some (iv x5), some (iv x8), some (iv (x7 + 1)), some (iv x8)]) (ck_at dt_Bu_buildWays 48 rfl) rfl nl_Bu_buildWays (by decide) rfl rfl ?_
  refine y_goto (t := 25) (ck_at dt_Bu_buildWays 49 rfl) rfl ?_
  exact y_wk w ⟨rfl, ⟨rfl, ⟨rfl, ⟨rfl, ⟨rfl, ⟨rfl, ⟨rfl, trivial⟩⟩⟩⟩⟩⟩⟩
def c_Bu_buildWays_25 (h1 : qH) (d : Nat) (x2 : Int) (x3 : Int) (x4 : Int) (x5 : Int) (x6 : Int) (x7 : Int) (B : qB) (Q : qO → qB → Prop) : Prop := R32 x7 ∧ (x7 ≥ 200 → Q (.inl (some (iv x6))) B) ∧ (x7 < 200 → 0 ≤ x5 ∧ x5 < 408 ∧ R32 (B 94 x5) ∧ (B 94 x5 = 0 → Q (.inl (some (iv x6))) B) ∧ (¬ B 94 x5 = 0 → ob 5 ((B 101 1).toNat) ∧ 0 ≤ B ((B 101 1).toNat) 7 ∧ B ((B 101 1).toNat) 7 < 608 ∧ qY h1 d n_Bu_buildRow 0 [some (.ref 101), some (iv (B 94 x5)), some (iv x2), some (iv x3), some (iv x4), none, none, none] [] (paC B ((B 101 1).toNat) 15 0 0 x3) (fun o B' => ∃ v : Int, o = .inl (some (iv v)) ∧ SH B' ∧ ob 5 (((paC B ((B 101 1).toNat) 15 0 0 x3) 101 1).toNat) ∧ c_Bu_buildWays_86 h1 d x2 x3 x4 (B 94 x5) x6 x7 (B ((B 101 1).toNat) 7) (((paC B ((B 101 1).toNat) 15 0 0 x3) 101 1).toNat) (B ((B 101 1).toNat) 7) v B' Q)))
theorem c_Bu_buildWays_25_ok {h1 : qH} {d : Nat} {x2 : Int} {x3 : Int} {x4 : Int} {x5 : Int} {x6 : Int} {x7 : Int} {B : qB} {Q : qO → qB → Prop} (hd : 2 ≤ d) (hS : SH B) (w : c_Bu_buildWays_25 h1 d x2 x3 x4 x5 x6 x7 B Q) : qY h1 (d + 1) n_Bu_buildWays 25 [some (.ref 101), none, some (iv x2), some (iv x3), some (iv x4), some (iv x5), some (iv x6), some (iv x7), none] [] B Q := by
  unfold c_Bu_buildWays_25 at w
  obtain ⟨p1, w⟩ := w
  refine y_ldk (ok := q_isI) (n := 7) (ck_at dt_Bu_buildWays 14 rfl) rfl rfl (fun _ => rfl) rfl rfl ?_
  refine y_op (ck_at dt_Bu_buildWays 15 rfl) rfl (o_sipush _ (by decide)) ?_
  refine y_icmp (t := 101) (ck_at dt_Bu_buildWays 16 rfl) rfl p1 ⟨by decide, by decide⟩ ?_ ?_
  · intro q; have w := w.1 q
    refine y_ldk (ok := q_isI) (n := 6) (ck_at dt_Bu_buildWays 50 rfl) rfl rfl (fun _ => rfl) rfl rfl ?_
    exact y_retI (ck_at dt_Bu_buildWays 51 rfl) rt_Bu_buildWays w
  · intro q; have w := w.2 q
    obtain ⟨p2, p3, p4, w⟩ := w
    refine y_ldk (ok := q_isA) (n := 0) (ck_at dt_Bu_buildWays 17 rfl) rfl rfl (fun _ => rfl) rfl rfl ?_
    refine y_getF (r := 90) (K := 0) (j := 0) (a := 101) (ck_at dt_Bu_buildWays 18 rfl) own_Bu_buildWays (cf_at 0 rfl) rfl rfl ⟨(SH.o hS ⟨by decide, by decide, by decide⟩), ?_⟩
    refine y_ldk (ok := q_isI) (n := 5) (ck_at dt_Bu_buildWays 19 rfl) rfl rfl (fun _ => rfl) rfl rfl ?_
    refine y_virtP (k' := n_Tr_beforeOf) (n := 0) (as := [iv x5]) (r := []) (ck_at dt_Bu_buildWays 20 rfl) own_Bu_buildWays (cm_at 5 rfl) vk_Tr_beforeOf rfl nl_Tr_beforeOf rfl rfl rfl rfl (SH.o hS ⟨by decide, by decide, by decide⟩) (Y_Tr_beforeOf (by omega) hS p2 p3 ⟨rfl, rfl⟩) ?_
    refine y_ifz (t := 101) (ck_at dt_Bu_buildWays 21 rfl) rfl p4 ?_ ?_
    · intro q; have w := w.1 q
      refine y_ldk (ok := q_isI) (n := 6) (ck_at dt_Bu_buildWays 50 rfl) rfl rfl (fun _ => rfl) rfl rfl ?_
      exact y_retI (ck_at dt_Bu_buildWays 51 rfl) rt_Bu_buildWays w
    · intro q; have w := w.2 q
      obtain ⟨p5, p6, p7, w⟩ := w
      refine y_ldk (ok := q_isA) (n := 0) (ck_at dt_Bu_buildWays 22 rfl) rfl rfl (fun _ => rfl) rfl rfl ?_
      refine y_getF (r := 90) (K := 0) (j := 0) (a := 101) (ck_at dt_Bu_buildWays 23 rfl) own_Bu_buildWays (cf_at 0 rfl) rfl rfl ⟨(SH.o hS ⟨by decide, by decide, by decide⟩), ?_⟩
      refine y_ldk (ok := q_isI) (n := 5) (ck_at dt_Bu_buildWays 24 rfl) rfl rfl (fun _ => rfl) rfl rfl ?_
      refine y_virtP (k' := n_Tr_beforeOf) (n := 0) (as := [iv x5]) (r := []) (ck_at dt_Bu_buildWays 25 rfl) own_Bu_buildWays (cm_at 5 rfl) vk_Tr_beforeOf rfl nl_Tr_beforeOf rfl rfl rfl rfl (SH.o hS ⟨by decide, by decide, by decide⟩) (Y_Tr_beforeOf (by omega) hS p2 p3 ⟨rfl, rfl⟩) ?_
      refine y_st1 (ok := q_isI) (n := 5) (L' := [some (.ref 101), none, some (iv x2), some (iv x3), some (iv x4), some (iv (B 94 x5)), some (iv x6), some (iv x7), none]) (ck_at dt_Bu_buildWays 26 rfl) rfl (fun _ => rfl) (fun _ _ => rfl) rfl nl_Bu_buildWays (by decide) rfl rfl ?_
      refine y_ldk (ok := q_isA) (n := 0) (ck_at dt_Bu_buildWays 27 rfl) rfl rfl (fun _ => rfl) rfl rfl ?_
      refine y_getD (K := 0) (j := 1) (a := 101) (ck_at dt_Bu_buildWays 28 rfl) own_Bu_buildWays (cf_at 1 rfl) rfl rfl rfl ⟨(SH.o hS ⟨by decide, by decide, by decide⟩), ?_⟩
      refine y_op (ck_at dt_Bu_buildWays 29 rfl) rfl (o_bipush _ (by decide)) ?_
      refine y_op (ck_at dt_Bu_buildWays 30 rfl) rfl (o_const _) ?_
      refine y_op (ck_at dt_Bu_buildWays 31 rfl) rfl (o_const _) ?_
      refine y_ldk (ok := q_isI) (n := 3) (ck_at dt_Bu_buildWays 32 rfl) rfl rfl (fun _ => rfl) rfl rfl ?_
      refine y_virtP (k' := n_Pr_add) (n := 1) (as := [iv 15, iv 0, iv 0, iv x3]) (r := []) (ck_at dt_Bu_buildWays 33 rfl) own_Bu_buildWays (cm_at 6 rfl) vk_Pr_add rfl nl_Pr_add rfl rfl rfl rfl (SH.o hS p5) (Y_Pr_add (by omega) hS p5 p6 p7 ⟨by decide, by decide⟩ ⟨rfl, rfl⟩) ?_
      have hS8 : SH (paC B ((B 101 1).toNat) 15 0 0 x3) := S_Pr_add hS p5 p6 p7 ⟨by decide, by decide⟩
      refine y_st1 (ok := q_isI) (n := 8) (L' := [some (.ref 101), none, some (iv x2), some (iv x3), some (iv x4), some (iv (B 94 x5)), some (iv x6), some (iv x7), some (iv (B ((B 101 1).toNat) 7))]) (ck_at dt_Bu_buildWays 34 rfl) rfl (fun _ => rfl) (fun _ _ => rfl) rfl nl_Bu_buildWays (by decide) rfl rfl ?_
      refine y_ldk (ok := q_isA) (n := 0) (ck_at dt_Bu_buildWays 35 rfl) rfl rfl (fun _ => rfl) rfl rfl ?_
      refine y_getD (K := 0) (j := 1) (a := 101) (ck_at dt_Bu_buildWays 36 rfl) own_Bu_buildWays (cf_at 1 rfl) rfl rfl rfl ⟨(SH.o hS8 ⟨by decide, by decide, by decide⟩), ?_⟩
      refine y_ldk (ok := q_isI) (n := 8) (ck_at dt_Bu_buildWays 37 rfl) rfl rfl (fun _ => rfl) rfl rfl ?_
      refine y_ldk (ok := q_isA) (n := 0) (ck_at dt_Bu_buildWays 38 rfl) rfl rfl (fun _ => rfl) rfl rfl ?_
      refine y_ldk (ok := q_isI) (n := 5) (ck_at dt_Bu_buildWays 39 rfl) rfl rfl (fun _ => rfl) rfl rfl ?_
      refine y_ldk (ok := q_isI) (n := 2) (ck_at dt_Bu_buildWays 40 rfl) rfl rfl (fun _ => rfl) rfl rfl ?_
      refine y_ldk (ok := q_isI) (n := 3) (ck_at dt_Bu_buildWays 41 rfl) rfl rfl (fun _ => rfl) rfl rfl ?_
      refine y_ldk (ok := q_isI) (n := 4) (ck_at dt_Bu_buildWays 42 rfl) rfl rfl (fun _ => rfl) rfl rfl ?_
      refine y_virt (k' := n_Bu_buildRow) (n := 3) (as := [iv (B 94 x5), iv x2, iv x3, iv x4]) (r := [iv (B ((B 101 1).toNat) 7), .ref (((paC B ((B 101 1).toNat) 15 0 0 x3) 101 1).toNat)]) (ck_at dt_Bu_buildWays 43 rfl) own_Bu_buildWays (cm_at 4 rfl) vk_Bu_buildRow rfl nl_Bu_buildRow rfl rfl rfl rfl ⟨(SH.o hS8 ⟨by decide, by decide, by decide⟩), ?_⟩
      exact w.mono (Nat.le_refl _) (fun o B' ⟨v, ho, hS', u0, w⟩ => Or.inl ⟨some (iv v), ho, y_wk (c_Bu_buildWays_86_ok (by omega) hS' u0 w) ⟨rfl, ⟨rfl, ⟨rfl, ⟨rfl, ⟨rfl, ⟨rfl, ⟨rfl, ⟨rfl, trivial⟩⟩⟩⟩⟩⟩⟩⟩⟩)
def c_Bu_buildWays_20 (h1 : qH) (d : Nat) (x2 : Int) (x3 : Int) (x4 : Int) (x5 : Int) (s0 : Int) (B : qB) (Q : qO → qB → Prop) : Prop := qY h1 (d + 1) n_Bu_buildWays 25 [some (.ref 101), none, some (iv x2), some (iv x3), some (iv x4), some (iv x5), some (iv s0), some (iv 0), none] [] B Q
theorem c_Bu_buildWays_20_ok {h1 : qH} {d : Nat} {x2 : Int} {x3 : Int} {x4 : Int} {x5 : Int} {s0 : Int} {B : qB} {Q : qO → qB → Prop} (hd : 2 ≤ d) (hS : SH B) (w : c_Bu_buildWays_20 h1 d x2 x3 x4 x5 s0 B Q) : qY h1 (d + 1) n_Bu_buildWays 20 [some (.ref 101), none, some (iv x2), some (iv x3), some (iv x4), some (iv x5), none, none, none] [iv s0] B Q := by
  unfold c_Bu_buildWays_20 at w
  refine y_st1 (ok := q_isI) (n := 6) (L' := [some (.ref 101), none, some (iv x2), some (iv x3), some (iv x4), some (iv x5), some (iv s0), none, none]) (ck_at dt_Bu_buildWays 11 rfl) rfl (fun _ => rfl) (fun _ _ => rfl) rfl nl_Bu_buildWays (by decide) rfl rfl ?_
  refine y_op (ck_at dt_Bu_buildWays 12 rfl) rfl (o_const _) ?_
  refine y_st1 (ok := q_isI) (n := 7) (L' := [some (.ref 101), none, some (iv x2), some (iv x3), some (iv x4), some (iv x5), some (iv s0), some (iv 0), none]) (ck_at dt_Bu_buildWays 13 rfl) rfl (fun _ => rfl) (fun _ _ => rfl) rfl nl_Bu_buildWays (by decide) rfl rfl ?_
  exact y_wk w ⟨rfl, ⟨rfl, ⟨rfl, ⟨rfl, ⟨rfl, ⟨rfl, ⟨rfl, trivial⟩⟩⟩⟩⟩⟩⟩
def c_Bu_buildWays_0 (h1 : qH) (d : Nat) (x1 : Int) (x2 : Int) (x3 : Int) (x4 : Int) (B : qB) (Q : qO → qB → Prop) : Prop := 0 ≤ x1 ∧ x1 < 408 ∧ qY h1 d n_Bu_buildRow 0 [some (.ref 101), some (iv (B 93 x1)), some (iv x2), some (iv x3), some (iv x4), none, none, none] [] B (fun o B' => ∃ v : Int, o = .inl (some (iv v)) ∧ SH B' ∧ c_Bu_buildWays_20 h1 d x2 x3 x4 (B 93 x1) v B' Q)
theorem c_Bu_buildWays_0_ok {h1 : qH} {d : Nat} {x1 : Int} {x2 : Int} {x3 : Int} {x4 : Int} {B : qB} {Q : qO → qB → Prop} (hd : 2 ≤ d) (hS : SH B) (w : c_Bu_buildWays_0 h1 d x1 x2 x3 x4 B Q) : qY h1 (d + 1) n_Bu_buildWays 0 [some (.ref 101), some (iv x1), some (iv x2), some (iv x3), some (iv x4), none, none, none, none] [] B Q := by
  unfold c_Bu_buildWays_0 at w
  obtain ⟨p1, p2, w⟩ := w
  refine y_ldk (ok := q_isA) (n := 0) (ck_at dt_Bu_buildWays 0 rfl) rfl rfl (fun _ => rfl) rfl rfl ?_
  refine y_getF (r := 90) (K := 0) (j := 0) (a := 101) (ck_at dt_Bu_buildWays 1 rfl) own_Bu_buildWays (cf_at 0 rfl) rfl rfl ⟨(SH.o hS ⟨by decide, by decide, by decide⟩), ?_⟩
  refine y_ldk (ok := q_isI) (n := 1) (ck_at dt_Bu_buildWays 2 rfl) rfl rfl (fun _ => rfl) rfl rfl ?_
  refine y_virtP (k' := n_Tr_innerOf) (n := 0) (as := [iv x1]) (r := []) (ck_at dt_Bu_buildWays 3 rfl) own_Bu_buildWays (cm_at 3 rfl) vk_Tr_innerOf rfl nl_Tr_innerOf rfl rfl rfl rfl (SH.o hS ⟨by decide, by decide, by decide⟩) (Y_Tr_innerOf (by omega) hS p1 p2 ⟨rfl, rfl⟩) ?_
  refine y_st1 (ok := q_isI) (n := 5) (L' := [some (.ref 101), some (iv x1), some (iv x2), some (iv x3), some (iv x4), some (iv (B 93 x1)), none, none, none]) (ck_at dt_Bu_buildWays 4 rfl) rfl (fun _ => rfl) (fun _ _ => rfl) rfl nl_Bu_buildWays (by decide) rfl rfl ?_
  refine y_ldk (ok := q_isA) (n := 0) (ck_at dt_Bu_buildWays 5 rfl) rfl rfl (fun _ => rfl) rfl rfl ?_
  refine y_ldk (ok := q_isI) (n := 5) (ck_at dt_Bu_buildWays 6 rfl) rfl rfl (fun _ => rfl) rfl rfl ?_
  refine y_ldk (ok := q_isI) (n := 2) (ck_at dt_Bu_buildWays 7 rfl) rfl rfl (fun _ => rfl) rfl rfl ?_
  refine y_ldk (ok := q_isI) (n := 3) (ck_at dt_Bu_buildWays 8 rfl) rfl rfl (fun _ => rfl) rfl rfl ?_
  refine y_ldk (ok := q_isI) (n := 4) (ck_at dt_Bu_buildWays 9 rfl) rfl rfl (fun _ => rfl) rfl rfl ?_
  refine y_virt (k' := n_Bu_buildRow) (n := 3) (as := [iv (B 93 x1), iv x2, iv x3, iv x4]) (r := []) (ck_at dt_Bu_buildWays 10 rfl) own_Bu_buildWays (cm_at 4 rfl) vk_Bu_buildRow rfl nl_Bu_buildRow rfl rfl rfl rfl ⟨(SH.o hS ⟨by decide, by decide, by decide⟩), ?_⟩
  exact w.mono (Nat.le_refl _) (fun o B' ⟨v, ho, hS', w⟩ => Or.inl ⟨some (iv v), ho, y_wk (c_Bu_buildWays_20_ok (by omega) hS' w) ⟨rfl, ⟨rfl, ⟨rfl, ⟨rfl, ⟨rfl, trivial⟩⟩⟩⟩⟩⟩)
/-! PatternTrier$Builder.buildRow(IIII)I -/
def t_Bu_buildRow : List (Nat × Instr × Nat) := [(0, .iload_n 2, 1), (1, .istore 5, 2), (3, .aload_n 0, 1), (4, .getfield 9, 3), (7, .iload_n 1, 1), (8, .invokevirtual 32, 3), (11, .istore 6, 2), (13, .iconst 0, 1), (14, .istore 7, 2), (16, .iload 7, 2), (18, .sipush 200, 3), (21, .if_icmp .ge 38, 3), (24, .iload 6, 2), (26, .ifCond .eq 33, 3), (29, .aload_n 0, 1), (30, .iload 6, 2), (32, .iload 5, 2), (34, .iload_n 3, 1), (35, .iload 4, 2), (37, .invokevirtual 51, 3), (40, .istore 5, 2), (42, .aload_n 0, 1), (43, .getfield 9, 3), (46, .iload 6, 2), (48, .invokevirtual 41, 3), (51, .istore 6, 2), (53, .iinc 7 1, 3), (56, .goto (-40), 3), (59, .iload 5, 2), (61, .ireturn, 1)]
set_option maxRecDepth 100000 in
theorem dt_Bu_buildRow : q_ck n_Bu_buildRow t_Bu_buildRow = true := by decide +kernel
def c_Bu_buildRow_40 (h1 : qH) (d : Nat) (x3 : Int) (x4 : Int) (x6 : Int) (x7 : Int) (s0 : Int) (B : qB) (Q : qO → qB → Prop) : Prop := 0 ≤ x6 ∧ x6 < 408 ∧ qY h1 (d + 1) n_Bu_buildRow 16 [some (.ref 101), none, none, some (iv x3), some (iv x4), some (iv s0), some (iv (B 94 x6)), some (iv (x7 + 1))] [] B Q
theorem c_Bu_buildRow_40_ok {h1 : qH} {d : Nat} {x3 : Int} {x4 : Int} {x6 : Int} {x7 : Int} {s0 : Int} {B : qB} {Q : qO → qB → Prop} (hd : 2 ≤ d) (hS : SH B) (w : c_Bu_buildRow_40 h1 d x3 x4 x6 x7 s0 B Q) : qY h1 (d + 1) n_Bu_buildRow 40 [some (.ref 101), none, none, some (iv x3), some (iv x4), none, some (iv x6), some (iv x7)] [iv s0] B Q := by
  unfold c_Bu_buildRow_40 at w
  obtain ⟨p1, p2, w⟩ := w
  refine y_st1 (ok := q_isI) (n := 5) (L' := [some (.ref 101), none, none, some (iv x3), some (iv x4), some (iv s0), some (iv x6), some (iv x7)]) (ck_at dt_Bu_buildRow 20 rfl) rfl (fun _ => rfl) (fun _ _ => rfl) rfl nl_Bu_buildRow (by decide) rfl rfl ?_
  refine y_ldk (ok := q_isA) (n := 0) (ck_at dt_Bu_buildRow 21 rfl) rfl rfl (fun _ => rfl) rfl rfl ?_
  refine y_getF (r := 90) (K := 0) (j := 0) (a := 101) (ck_at dt_Bu_buildRow 22 rfl) own_Bu_buildRow (cf_at 0 rfl) rfl rfl ⟨(SH.o hS ⟨by decide, by decide, by decide⟩), ?_⟩
  refine y_ldk (ok := q_isI) (n := 6) (ck_at dt_Bu_buildRow 23 rfl) rfl rfl (fun _ => rfl) rfl rfl ?_
  refine y_virtP (k' := n_Tr_beforeOf) (n := 0) (as := [iv x6]) (r := []) (ck_at dt_Bu_buildRow 24 rfl) own_Bu_buildRow (cm_at 5 rfl) vk_Tr_beforeOf rfl nl_Tr_beforeOf rfl rfl rfl rfl (SH.o hS ⟨by decide, by decide, by decide⟩) (Y_Tr_beforeOf (by omega) hS p1 p2 ⟨rfl, rfl⟩) ?_
  refine y_st1 (ok := q_isI) (n := 6) (L' := [some (.ref 101), none, none, some (iv x3), some (iv x4), some (iv s0), some (iv (B 94 x6)), some (iv x7)]) (ck_at dt_Bu_buildRow 25 rfl) rfl (fun _ => rfl) (fun _ _ => rfl) rfl nl_Bu_buildRow (by decide) rfl rfl ?_
  refine y_iinc (n := 7) (L' := [some (.ref 101), none, none, some (iv x3), some (iv x4), some (iv s0), some (iv (B 94 x6)), some (iv (x7 + 1))]) (ck_at dt_Bu_buildRow 26 rfl) rfl nl_Bu_buildRow (by decide) rfl rfl ?_
  refine y_goto (t := 16) (ck_at dt_Bu_buildRow 27 rfl) rfl ?_
  exact y_wk w ⟨rfl, ⟨rfl, ⟨rfl, ⟨rfl, ⟨rfl, ⟨rfl, trivial⟩⟩⟩⟩⟩⟩
def c_Bu_buildRow_16 (h1 : qH) (d : Nat) (x3 : Int) (x4 : Int) (x5 : Int) (x6 : Int) (x7 : Int) (B : qB) (Q : qO → qB → Prop) : Prop := R32 x7 ∧ (x7 ≥ 200 → Q (.inl (some (iv x5))) B) ∧ (x7 < 200 → R32 x6 ∧ (x6 = 0 → Q (.inl (some (iv x5))) B) ∧ (¬ x6 = 0 → qY h1 d n_Bu_buildPart 0 [some (.ref 101), some (iv x6), some (iv x5), some (iv x3), some (iv x4), none] [] B (fun o B' => ∃ v : Int, o = .inl (some (iv v)) ∧ SH B' ∧ c_Bu_buildRow_40 h1 d x3 x4 x6 x7 v B' Q)))
theorem c_Bu_buildRow_16_ok {h1 : qH} {d : Nat} {x3 : Int} {x4 : Int} {x5 : Int} {x6 : Int} {x7 : Int} {B : qB} {Q : qO → qB → Prop} (hd : 2 ≤ d) (hS : SH B) (w : c_Bu_buildRow_16 h1 d x3 x4 x5 x6 x7 B Q) : qY h1 (d + 1) n_Bu_buildRow 16 [some (.ref 101), none, none, some (iv x3), some (iv x4), some (iv x5), some (iv x6), some (iv x7)] [] B Q := by
  unfold c_Bu_buildRow_16 at w
  obtain ⟨p1, w⟩ := w
  refine y_ldk (ok := q_isI) (n := 7) (ck_at dt_Bu_buildRow 9 rfl) rfl rfl (fun _ => rfl) rfl rfl ?_
  refine y_op (ck_at dt_Bu_buildRow 10 rfl) rfl (o_sipush _ (by decide)) ?_
  refine y_icmp (t := 59) (ck_at dt_Bu_buildRow 11 rfl) rfl p1 ⟨by decide, by decide⟩ ?_ ?_
  · intro q; have w := w.1 q
    refine y_ldk (ok := q_isI) (n := 5) (ck_at dt_Bu_buildRow 28 rfl) rfl rfl (fun _ => rfl) rfl rfl ?_
    exact y_retI (ck_at dt_Bu_buildRow 29 rfl) rt_Bu_buildRow w
  · intro q; have w := w.2 q
    obtain ⟨p2, w⟩ := w
    refine y_ldk (ok := q_isI) (n := 6) (ck_at dt_Bu_buildRow 12 rfl) rfl rfl (fun _ => rfl) rfl rfl ?_
    refine y_ifz (t := 59) (ck_at dt_Bu_buildRow 13 rfl) rfl p2 ?_ ?_
    · intro q; have w := w.1 q
      refine y_ldk (ok := q_isI) (n := 5) (ck_at dt_Bu_buildRow 28 rfl) rfl rfl (fun _ => rfl) rfl rfl ?_
      exact y_retI (ck_at dt_Bu_buildRow 29 rfl) rt_Bu_buildRow w
    · intro q; have w := w.2 q
      refine y_ldk (ok := q_isA) (n := 0) (ck_at dt_Bu_buildRow 14 rfl) rfl rfl (fun _ => rfl) rfl rfl ?_
      refine y_ldk (ok := q_isI) (n := 6) (ck_at dt_Bu_buildRow 15 rfl) rfl rfl (fun _ => rfl) rfl rfl ?_
      refine y_ldk (ok := q_isI) (n := 5) (ck_at dt_Bu_buildRow 16 rfl) rfl rfl (fun _ => rfl) rfl rfl ?_
      refine y_ldk (ok := q_isI) (n := 3) (ck_at dt_Bu_buildRow 17 rfl) rfl rfl (fun _ => rfl) rfl rfl ?_
      refine y_ldk (ok := q_isI) (n := 4) (ck_at dt_Bu_buildRow 18 rfl) rfl rfl (fun _ => rfl) rfl rfl ?_
      refine y_virt (k' := n_Bu_buildPart) (n := 1) (as := [iv x6, iv x5, iv x3, iv x4]) (r := []) (ck_at dt_Bu_buildRow 19 rfl) own_Bu_buildRow (cm_at 8 rfl) vk_Bu_buildPart rfl nl_Bu_buildPart rfl rfl rfl rfl ⟨(SH.o hS ⟨by decide, by decide, by decide⟩), ?_⟩
      exact w.mono (Nat.le_refl _) (fun o B' ⟨v, ho, hS', w⟩ => Or.inl ⟨some (iv v), ho, y_wk (c_Bu_buildRow_40_ok (by omega) hS' w) ⟨rfl, ⟨rfl, ⟨rfl, ⟨rfl, ⟨rfl, trivial⟩⟩⟩⟩⟩⟩)
def c_Bu_buildRow_0 (h1 : qH) (d : Nat) (x1 : Int) (x2 : Int) (x3 : Int) (x4 : Int) (B : qB) (Q : qO → qB → Prop) : Prop := 0 ≤ x1 ∧ x1 < 408 ∧ qY h1 (d + 1) n_Bu_buildRow 16 [some (.ref 101), none, none, some (iv x3), some (iv x4), some (iv x2), some (iv (B 93 x1)), some (iv 0)] [] B Q
theorem c_Bu_buildRow_0_ok {h1 : qH} {d : Nat} {x1 : Int} {x2 : Int} {x3 : Int} {x4 : Int} {B : qB} {Q : qO → qB → Prop} (hd : 2 ≤ d) (hS : SH B) (w : c_Bu_buildRow_0 h1 d x1 x2 x3 x4 B Q) : qY h1 (d + 1) n_Bu_buildRow 0 [some (.ref 101), some (iv x1), some (iv x2), some (iv x3), some (iv x4), none, none, none] [] B Q := by
  unfold c_Bu_buildRow_0 at w
  obtain ⟨p1, p2, w⟩ := w
  refine y_ldk (ok := q_isI) (n := 2) (ck_at dt_Bu_buildRow 0 rfl) rfl rfl (fun _ => rfl) rfl rfl ?_
  refine y_st1 (ok := q_isI) (n := 5) (L' := [some (.ref 101), some (iv x1), some (iv x2), some (iv x3), some (iv x4), some (iv x2), none, none]) (ck_at dt_Bu_buildRow 1 rfl) rfl (fun _ => rfl) (fun _ _ => rfl) rfl nl_Bu_buildRow (by decide) rfl rfl ?_
  refine y_ldk (ok := q_isA) (n := 0) (ck_at dt_Bu_buildRow 2 rfl) rfl rfl (fun _ => rfl) rfl rfl ?_
  refine y_getF (r := 90) (K := 0) (j := 0) (a := 101) (ck_at dt_Bu_buildRow 3 rfl) own_Bu_buildRow (cf_at 0 rfl) rfl rfl ⟨(SH.o hS ⟨by decide, by decide, by decide⟩), ?_⟩
  refine y_ldk (ok := q_isI) (n := 1) (ck_at dt_Bu_buildRow 4 rfl) rfl rfl (fun _ => rfl) rfl rfl ?_
  refine y_virtP (k' := n_Tr_innerOf) (n := 0) (as := [iv x1]) (r := []) (ck_at dt_Bu_buildRow 5 rfl) own_Bu_buildRow (cm_at 3 rfl) vk_Tr_innerOf rfl nl_Tr_innerOf rfl rfl rfl rfl (SH.o hS ⟨by decide, by decide, by decide⟩) (Y_Tr_innerOf (by omega) hS p1 p2 ⟨rfl, rfl⟩) ?_
  refine y_st1 (ok := q_isI) (n := 6) (L' := [some (.ref 101), some (iv x1), some (iv x2), some (iv x3), some (iv x4), some (iv x2), some (iv (B 93 x1)), none]) (ck_at dt_Bu_buildRow 6 rfl) rfl (fun _ => rfl) (fun _ _ => rfl) rfl nl_Bu_buildRow (by decide) rfl rfl ?_
  refine y_op (ck_at dt_Bu_buildRow 7 rfl) rfl (o_const _) ?_
  refine y_st1 (ok := q_isI) (n := 7) (L' := [some (.ref 101), some (iv x1), some (iv x2), some (iv x3), some (iv x4), some (iv x2), some (iv (B 93 x1)), some (iv 0)]) (ck_at dt_Bu_buildRow 8 rfl) rfl (fun _ => rfl) (fun _ _ => rfl) rfl nl_Bu_buildRow (by decide) rfl rfl ?_
  exact y_wk w ⟨rfl, ⟨rfl, ⟨rfl, ⟨rfl, ⟨rfl, ⟨rfl, trivial⟩⟩⟩⟩⟩⟩
/-! PatternTrier$Builder.buildGroup(IIII)I -/
def t_Bu_buildGroup : List (Nat × Instr × Nat) := [(0, .iconst 2, 1), (1, .aload_n 0, 1), (2, .getfield 9, 3), (5, .iload_n 1, 1), (6, .invokevirtual 66, 3), (9, .imul, 1), (10, .istore 5, 2), (12, .aload_n 0, 1), (13, .getfield 15, 3), (16, .bipush 17, 2), (18, .iload 5, 2), (20, .iconst 1, 1), (21, .iadd, 1), (22, .iload_n 2, 1), (23, .iload_n 3, 1), (24, .invokevirtual 44, 3), (27, .istore 6, 2), (29, .aload_n 0, 1), (30, .aload_n 0, 1), (31, .getfield 9, 3), (34, .iload_n 1, 1), (35, .invokevirtual 32, 3), (38, .iload 6, 2), (40, .iload_n 3, 1), (41, .iload 4, 2), (43, .iconst 1, 1), (44, .iadd, 1), (45, .invokevirtual 24, 3), (48, .istore 7, 2), (50, .aload_n 0, 1), (51, .getfield 15, 3), (54, .bipush 17, 2), (56, .iload 5, 2), (58, .iload 7, 2), (60, .iload_n 3, 1), (61, .invokevirtual 44, 3), (64, .ireturn, 1)]
set_option maxRecDepth 100000 in
theorem dt_Bu_buildGroup : q_ck n_Bu_buildGroup t_Bu_buildGroup = true := by decide +kernel
def c_Bu_buildGroup_48 (h1 : qH) (d : Nat) (x3 : Int) (x5 : Int) (s0 : Int) (B : qB) (Q : qO → qB → Prop) : Prop := ob 5 ((B 101 1).toNat) ∧ 0 ≤ B ((B 101 1).toNat) 7 ∧ B ((B 101 1).toNat) 7 < 608 ∧ Q (.inl (some (iv (B ((B 101 1).toNat) 7)))) (paC B ((B 101 1).toNat) 17 x5 s0 x3)
theorem c_Bu_buildGroup_48_ok {h1 : qH} {d : Nat} {x3 : Int} {x5 : Int} {s0 : Int} {B : qB} {Q : qO → qB → Prop} (hd : 2 ≤ d) (hS : SH B) (w : c_Bu_buildGroup_48 h1 d x3 x5 s0 B Q) : qY h1 (d + 1) n_Bu_buildGroup 48 [some (.ref 101), none, none, some (iv x3), none, some (iv x5), none, none] [iv s0] B Q := by
  unfold c_Bu_buildGroup_48 at w
  obtain ⟨p1, p2, p3, w⟩ := w
  refine y_st1 (ok := q_isI) (n := 7) (L' := [some (.ref 101), none, none, some (iv x3), none, some (iv x5), none, some (iv s0)]) (ck_at dt_Bu_buildGroup 28 rfl) rfl (fun _ => rfl) (fun _ _ => rfl) rfl nl_Bu_buildGroup (by decide) trivial rfl ?_
  refine y_ldk (ok := q_isA) (n := 0) (ck_at dt_Bu_buildGroup 29 rfl) rfl rfl (fun _ => rfl) rfl rfl ?_
  refine y_getD (K := 0) (j := 1) (a := 101) (ck_at dt_Bu_buildGroup 30 rfl) own_Bu_buildGroup (cf_at 1 rfl) rfl rfl rfl ⟨(SH.o hS ⟨by decide, by decide, by decide⟩), ?_⟩
  refine y_op (ck_at dt_Bu_buildGroup 31 rfl) rfl (o_bipush _ (by decide)) ?_
  refine y_ldk (ok := q_isI) (n := 5) (ck_at dt_Bu_buildGroup 32 rfl) rfl rfl (fun _ => rfl) rfl rfl ?_
  refine y_ldk (ok := q_isI) (n := 7) (ck_at dt_Bu_buildGroup 33 rfl) rfl rfl (fun _ => rfl) rfl rfl ?_
  refine y_ldk (ok := q_isI) (n := 3) (ck_at dt_Bu_buildGroup 34 rfl) rfl rfl (fun _ => rfl) rfl rfl ?_
  refine y_virtP (k' := n_Pr_add) (n := 1) (as := [iv 17, iv x5, iv s0, iv x3]) (r := []) (ck_at dt_Bu_buildGroup 35 rfl) own_Bu_buildGroup (cm_at 6 rfl) vk_Pr_add rfl nl_Pr_add rfl rfl rfl rfl (SH.o hS p1) (Y_Pr_add (by omega) hS p1 p2 p3 ⟨by decide, by decide⟩ ⟨rfl, rfl⟩) ?_
  have hS4 : SH (paC B ((B 101 1).toNat) 17 x5 s0 x3) := S_Pr_add hS p1 p2 p3 ⟨by decide, by decide⟩
  exact y_retI (ck_at dt_Bu_buildGroup 36 rfl) rt_Bu_buildGroup w
def c_Bu_buildGroup_0 (h1 : qH) (d : Nat) (x1 : Int) (x2 : Int) (x3 : Int) (x4 : Int) (B : qB) (Q : qO → qB → Prop) : Prop := 0 ≤ x1 ∧ x1 < 408 ∧ ob 5 ((B 101 1).toNat) ∧ 0 ≤ B ((B 101 1).toNat) 7 ∧ B ((B 101 1).toNat) 7 < 608 ∧ qY h1 d n_Bu_buildWays 0 [some (.ref 101), some (iv ((paC B ((B 101 1).toNat) 17 ((2 * (B 92 x1)) + 1) x2 x3) 93 x1)), some (iv (B ((B 101 1).toNat) 7)), some (iv x3), some (iv (x4 + 1)), none, none, none, none] [] (paC B ((B 101 1).toNat) 17 ((2 * (B 92 x1)) + 1) x2 x3) (fun o B' => ∃ v : Int, o = .inl (some (iv v)) ∧ SH B' ∧ c_Bu_buildGroup_48 h1 d x3 (2 * (B 92 x1)) v B' Q)
theorem c_Bu_buildGroup_0_ok {h1 : qH} {d : Nat} {x1 : Int} {x2 : Int} {x3 : Int} {x4 : Int} {B : qB} {Q : qO → qB → Prop} (hd : 2 ≤ d) (hS : SH B) (w : c_Bu_buildGroup_0 h1 d x1 x2 x3 x4 B Q) : qY h1 (d + 1) n_Bu_buildGroup 0 [some (.ref 101), some (iv x1), some (iv x2), some (iv x3), some (iv x4), none, none, none] [] B Q := by
  unfold c_Bu_buildGroup_0 at w
  obtain ⟨p1, p2, p3, p4, p5, w⟩ := w
  refine y_op (ck_at dt_Bu_buildGroup 0 rfl) rfl (o_const _) ?_
  refine y_ldk (ok := q_isA) (n := 0) (ck_at dt_Bu_buildGroup 1 rfl) rfl rfl (fun _ => rfl) rfl rfl ?_
  refine y_getF (r := 90) (K := 0) (j := 0) (a := 101) (ck_at dt_Bu_buildGroup 2 rfl) own_Bu_buildGroup (cf_at 0 rfl) rfl rfl ⟨(SH.o hS ⟨by decide, by decide, by decide⟩), ?_⟩
  refine y_ldk (ok := q_isI) (n := 1) (ck_at dt_Bu_buildGroup 3 rfl) rfl rfl (fun _ => rfl) rfl rfl ?_
  refine y_virtP (k' := n_Tr_valueOf) (n := 0) (as := [iv x1]) (r := [iv 2]) (ck_at dt_Bu_buildGroup 4 rfl) own_Bu_buildGroup (cm_at 13 rfl) vk_Tr_valueOf rfl nl_Tr_valueOf rfl rfl rfl rfl (SH.o hS ⟨by decide, by decide, by decide⟩) (Y_Tr_valueOf (by omega) hS p1 p2 ⟨rfl, rfl⟩) ?_
  refine y_op (ck_at dt_Bu_buildGroup 5 rfl) rfl o_imul ?_
  refine y_st1 (ok := q_isI) (n := 5) (L' := [some (.ref 101), some (iv x1), some (iv x2), some (iv x3), some (iv x4), some (iv (2 * (B 92 x1))), none, none]) (ck_at dt_Bu_buildGroup 6 rfl) rfl (fun _ => rfl) (fun _ _ => rfl) rfl nl_Bu_buildGroup (by decide) rfl rfl ?_
  refine y_ldk (ok := q_isA) (n := 0) (ck_at dt_Bu_buildGroup 7 rfl) rfl rfl (fun _ => rfl) rfl rfl ?_
  refine y_getD (K := 0) (j := 1) (a := 101) (ck_at dt_Bu_buildGroup 8 rfl) own_Bu_buildGroup (cf_at 1 rfl) rfl rfl rfl ⟨(SH.o hS ⟨by decide, by decide, by decide⟩), ?_⟩
  refine y_op (ck_at dt_Bu_buildGroup 9 rfl) rfl (o_bipush _ (by decide)) ?_
  refine y_ldk (ok := q_isI) (n := 5) (ck_at dt_Bu_buildGroup 10 rfl) rfl rfl (fun _ => rfl) rfl rfl ?_
  refine y_op (ck_at dt_Bu_buildGroup 11 rfl) rfl (o_const _) ?_
  refine y_op (ck_at dt_Bu_buildGroup 12 rfl) rfl o_iadd ?_
  refine y_ldk (ok := q_isI) (n := 2) (ck_at dt_Bu_buildGroup 13 rfl) rfl rfl (fun _ => rfl) rfl rfl ?_
  refine y_ldk (ok := q_isI) (n := 3) (ck_at dt_Bu_buildGroup 14 rfl) rfl rfl (fun _ => rfl) rfl rfl ?_
  refine y_virtP (k' := n_Pr_add) (n := 1) (as := [iv 17, iv ((2 * (B 92 x1)) + 1), iv x2, iv x3]) (r := []) (ck_at dt_Bu_buildGroup 15 rfl) own_Bu_buildGroup (cm_at 6 rfl) vk_Pr_add rfl nl_Pr_add rfl rfl rfl rfl (SH.o hS p3) (Y_Pr_add (by omega) hS p3 p4 p5 ⟨by decide, by decide⟩ ⟨rfl, rfl⟩) ?_
  have hS6 : SH (paC B ((B 101 1).toNat) 17 ((2 * (B 92 x1)) + 1) x2 x3) := S_Pr_add hS p3 p4 p5 ⟨by decide, by decide⟩
  refine y_st1 (ok := q_isI) (n := 6) (L' := [some (.ref 101), some (iv x1), some (iv x2), some (iv x3), some (iv x4), some (iv (2 * (B 92 x1))), some (iv (B ((B 101 1).toNat) 7)), none]) (ck_at dt_Bu_buildGroup 16 rfl) rfl (fun _ => rfl) (fun _ _ => rfl) rfl nl_Bu_buildGroup (by decide) rfl rfl ?_
  refine y_ldk (ok := q_isA) (n := 0) (ck_at dt_Bu_buildGroup 17 rfl) rfl rfl (fun _ => rfl) rfl rfl ?_
  refine y_ldk (ok := q_isA) (n := 0) (ck_at dt_Bu_buildGroup 18 rfl) rfl rfl (fun _ => rfl) rfl rfl ?_
  refine y_getF (r := 90) (K := 0) (j := 0) (a := 101) (ck_at dt_Bu_buildGroup 19 rfl) own_Bu_buildGroup (cf_at 0 rfl) rfl rfl ⟨(SH.o hS6 ⟨by decide, by decide, by decide⟩), ?_⟩
  refine y_ldk (ok := q_isI) (n := 1) (ck_at dt_Bu_buildGroup 20 rfl) rfl rfl (fun _ => rfl) rfl rfl ?_
  refine y_virtP (k' := n_Tr_innerOf) (n := 0) (as := [iv x1]) (r := [.ref 101]) (ck_at dt_Bu_buildGroup 21 rfl) own_Bu_buildGroup (cm_at 3 rfl) vk_Tr_innerOf rfl nl_Tr_innerOf rfl rfl rfl rfl (SH.o hS6 ⟨by decide, by decide, by decide⟩) (Y_Tr_innerOf (by omega) hS6 p1 p2 ⟨rfl, rfl⟩) ?_
  refine y_ldk (ok := q_isI) (n := 6) (ck_at dt_Bu_buildGroup 22 rfl) rfl rfl (fun _ => rfl) rfl rfl ?_
  refine y_ldk (ok := q_isI) (n := 3) (ck_at dt_Bu_buildGroup 23 rfl) rfl rfl (fun _ => rfl) rfl rfl ?_
  refine y_ldk (ok := q_isI) (n := 4) (ck_at dt_Bu_buildGroup 24 rfl) rfl rfl (fun _ => rfl) rfl rfl ?_
  refine y_op (ck_at dt_Bu_buildGroup 25 rfl) rfl (o_const _) ?_
  refine y_op (ck_at dt_Bu_buildGroup 26 rfl) rfl o_iadd ?_
  refine y_virt (k' := n_Bu_buildWays) (n := 4) (as := [iv ((paC B ((B 101 1).toNat) 17 ((2 * (B 92 x1)) + 1) x2 x3) 93 x1), iv (B ((B 101 1).toNat) 7), iv x3, iv (x4 + 1)]) (r := []) (ck_at dt_Bu_buildGroup 27 rfl) own_Bu_buildGroup (cm_at 1 rfl) vk_Bu_buildWays rfl nl_Bu_buildWays rfl rfl rfl rfl ⟨(SH.o hS6 ⟨by decide, by decide, by decide⟩), ?_⟩
  exact w.mono (Nat.le_refl _) (fun o B' ⟨v, ho, hS', w⟩ => Or.inl ⟨some (iv v), ho, y_wk (c_Bu_buildGroup_48_ok (by omega) hS' w) ⟨rfl, ⟨rfl, ⟨rfl, trivial⟩⟩⟩⟩)
/-! PatternTrier$Builder.buildAhead(IIII)I -/
def t_Bu_buildAhead : List (Nat × Instr × Nat) := [(0, .aload_n 0, 1), (1, .getfield 15, 3), (4, .aload_n 0, 1), (5, .getfield 9, 3), (8, .iload_n 1, 1), (9, .invokevirtual 54, 3), (12, .iconst 0, 1), (13, .iload_n 2, 1), (14, .iload_n 3, 1), (15, .invokevirtual 44, 3), (18, .istore 5, 2), (20, .aload_n 0, 1), (21, .getfield 15, 3), (24, .iload 5, 2), (26, .iload_n 2, 1), (27, .aload_n 0, 1), (28, .aload_n 0, 1), (29, .getfield 9, 3), (32, .iload_n 1, 1), (33, .invokevirtual 32, 3), (36, .iconst 0, 1), (37, .iconst 0, 1), (38, .iload 4, 2), (40, .iconst 1, 1), (41, .iadd, 1), (42, .invokevirtual 24, 3), (45, .invokevirtual 47, 3), (48, .iload 5, 2), (50, .ireturn, 1)]
set_option maxRecDepth 100000 in
theorem dt_Bu_buildAhead : q_ck n_Bu_buildAhead t_Bu_buildAhead = true := by decide +kernel
def c_Bu_buildAhead_45 (h1 : qH) (d : Nat) (x5 : Int) (r0 : Nat) (s1 : Int) (s2 : Int) (s3 : Int) (B : qB) (Q : qO → qB → Prop) : Prop := 0 ≤ s1 ∧ s1 < 608 ∧ Q (.inl (some (iv x5))) (u2 (u2 B (r0 + 3) s1 s2) (r0 + 4) s1 s3)
theorem c_Bu_buildAhead_45_ok {h1 : qH} {d : Nat} {x5 : Int} {r0 : Nat} {s1 : Int} {s2 : Int} {s3 : Int} {B : qB} {Q : qO → qB → Prop} (hd : 2 ≤ d) (hS : SH B) (hr0 : ob 5 r0) (w : c_Bu_buildAhead_45 h1 d x5 r0 s1 s2 s3 B Q) : qY h1 (d + 1) n_Bu_buildAhead 45 [none, none, none, none, none, some (iv x5)] [iv s3, iv s2, iv s1, .ref r0] B Q := by
  unfold c_Bu_buildAhead_45 at w
  obtain ⟨p1, p2, w⟩ := w
  refine y_virtV (k' := n_Pr_branch) (n := 0) (as := [iv s1, iv s2, iv s3]) (r := []) (ck_at dt_Bu_buildAhead 26 rfl) own_Bu_buildAhead (cm_at 7 rfl) vk_Pr_branch rfl nl_Pr_branch rfl rfl rfl rfl (SH.o hS hr0) (Y_Pr_branch (by omega) hS hr0 p1 p2 ⟨rfl, rfl⟩) ?_
  have hS3 := SH_u2 (b := r0 + 3) (x := s1) (z := s2) hS p1
  have hS4 := SH_u2 (b := r0 + 4) (x := s1) (z := s3) hS3 p1
  refine y_ldk (ok := q_isI) (n := 5) (ck_at dt_Bu_buildAhead 27 rfl) rfl rfl (fun _ => rfl) rfl rfl ?_
  exact y_retI (ck_at dt_Bu_buildAhead 28 rfl) rt_Bu_buildAhead w
def c_Bu_buildAhead_0 (h1 : qH) (d : Nat) (x1 : Int) (x2 : Int) (x3 : Int) (x4 : Int) (B : qB) (Q : qO → qB → Prop) : Prop := 0 ≤ x1 ∧ x1 < 408 ∧ ob 5 ((B 101 1).toNat) ∧ 0 ≤ B ((B 101 1).toNat) 7 ∧ B ((B 101 1).toNat) 7 < 608 ∧ R32 (B 91 x1) ∧ qY h1 d n_Bu_buildWays 0 [some (.ref 101), some (iv ((paC B ((B 101 1).toNat) (B 91 x1) 0 x2 x3) 93 x1)), some (iv 0), some (iv 0), some (iv (x4 + 1)), none, none, none, none] [] (paC B ((B 101 1).toNat) (B 91 x1) 0 x2 x3) (fun o B' => ∃ v : Int, o = .inl (some (iv v)) ∧ SH B' ∧ ob 5 (((paC B ((B 101 1).toNat) (B 91 x1) 0 x2 x3) 101 1).toNat) ∧ c_Bu_buildAhead_45 h1 d (B ((B 101 1).toNat) 7) (((paC B ((B 101 1).toNat) (B 91 x1) 0 x2 x3) 101 1).toNat) (B ((B 101 1).toNat) 7) x2 v B' Q)
theorem c_Bu_buildAhead_0_ok {h1 : qH} {d : Nat} {x1 : Int} {x2 : Int} {x3 : Int} {x4 : Int} {B : qB} {Q : qO → qB → Prop} (hd : 2 ≤ d) (hS : SH B) (w : c_Bu_buildAhead_0 h1 d x1 x2 x3 x4 B Q) : qY h1 (d + 1) n_Bu_buildAhead 0 [some (.ref 101), some (iv x1), some (iv x2), some (iv x3), some (iv x4), none] [] B Q := by
  unfold c_Bu_buildAhead_0 at w
  obtain ⟨p1, p2, p3, p4, p5, p6, w⟩ := w
  refine y_ldk (ok := q_isA) (n := 0) (ck_at dt_Bu_buildAhead 0 rfl) rfl rfl (fun _ => rfl) rfl rfl ?_
  refine y_getD (K := 0) (j := 1) (a := 101) (ck_at dt_Bu_buildAhead 1 rfl) own_Bu_buildAhead (cf_at 1 rfl) rfl rfl rfl ⟨(SH.o hS ⟨by decide, by decide, by decide⟩), ?_⟩
  refine y_ldk (ok := q_isA) (n := 0) (ck_at dt_Bu_buildAhead 2 rfl) rfl rfl (fun _ => rfl) rfl rfl ?_
  refine y_getF (r := 90) (K := 0) (j := 0) (a := 101) (ck_at dt_Bu_buildAhead 3 rfl) own_Bu_buildAhead (cf_at 0 rfl) rfl rfl ⟨(SH.o hS ⟨by decide, by decide, by decide⟩), ?_⟩
  refine y_ldk (ok := q_isI) (n := 1) (ck_at dt_Bu_buildAhead 4 rfl) rfl rfl (fun _ => rfl) rfl rfl ?_
  refine y_virtP (k' := n_Tr_kindOf) (n := 0) (as := [iv x1]) (r := [.ref ((B 101 1).toNat)]) (ck_at dt_Bu_buildAhead 5 rfl) own_Bu_buildAhead (cm_at 9 rfl) vk_Tr_kindOf rfl nl_Tr_kindOf rfl rfl rfl rfl (SH.o hS ⟨by decide, by decide, by decide⟩) (Y_Tr_kindOf (by omega) hS p1 p2 ⟨rfl, rfl⟩) ?_
  refine y_op (ck_at dt_Bu_buildAhead 6 rfl) rfl (o_const _) ?_
  refine y_ldk (ok := q_isI) (n := 2) (ck_at dt_Bu_buildAhead 7 rfl) rfl rfl (fun _ => rfl) rfl rfl ?_
  refine y_ldk (ok := q_isI) (n := 3) (ck_at dt_Bu_buildAhead 8 rfl) rfl rfl (fun _ => rfl) rfl rfl ?_
  refine y_virtP (k' := n_Pr_add) (n := 1) (as := [iv (B 91 x1), iv 0, iv x2, iv x3]) (r := []) (ck_at dt_Bu_buildAhead 9 rfl) own_Bu_buildAhead (cm_at 6 rfl) vk_Pr_add rfl nl_Pr_add rfl rfl rfl rfl (SH.o hS p3) (Y_Pr_add (by omega) hS p3 p4 p5 p6 ⟨rfl, rfl⟩) ?_
  have hS7 : SH (paC B ((B 101 1).toNat) (B 91 x1) 0 x2 x3) := S_Pr_add hS p3 p4 p5 p6
  refine y_st1 (ok := q_isI) (n := 5) (L' := [some (.ref 101), some (iv x1), some (iv x2), some (iv x3), some (iv x4), some (iv (B ((B 101 1).toNat) 7))]) (ck_at dt_Bu_buildAhead 10 rfl) rfl (fun _ => rfl) (fun _ _ => rfl) rfl nl_Bu_buildAhead (by decide) rfl rfl ?_
  refine y_ldk (ok := q_isA) (n := 0) (ck_at dt_Bu_buildAhead 11 rfl) rfl rfl (fun _ => rfl) rfl rfl ?_
  refine y_getD (K := 0) (j := 1) (a := 101) (ck_at dt_Bu_buildAhead 12 rfl) own_Bu_buildAhead (cf_at 1 rfl) rfl rfl rfl ⟨(SH.o hS7 ⟨by decide, by decide, by decide⟩), ?_⟩
  refine y_ldk (ok := q_isI) (n := 5) (ck_at dt_Bu_buildAhead 13 rfl) rfl rfl (fun _ => rfl) rfl rfl ?_
  refine y_ldk (ok := q_isI) (n := 2) (ck_at dt_Bu_buildAhead 14 rfl) rfl rfl (fun _ => rfl) rfl rfl ?_
  refine y_ldk (ok := q_isA) (n := 0) (ck_at dt_Bu_buildAhead 15 rfl) rfl rfl (fun _ => rfl) rfl rfl ?_
  refine y_ldk (ok := q_isA) (n := 0) (ck_at dt_Bu_buildAhead 16 rfl) rfl rfl (fun _ => rfl) rfl rfl ?_
  refine y_getF (r := 90) (K := 0) (j := 0) (a := 101) (ck_at dt_Bu_buildAhead 17 rfl) own_Bu_buildAhead (cf_at 0 rfl) rfl rfl ⟨(SH.o hS7 ⟨by decide, by decide, by decide⟩), ?_⟩
  refine y_ldk (ok := q_isI) (n := 1) (ck_at dt_Bu_buildAhead 18 rfl) rfl rfl (fun _ => rfl) rfl rfl ?_
  refine y_virtP (k' := n_Tr_innerOf) (n := 0) (as := [iv x1]) (r := [.ref 101, iv x2, iv (B ((B 101 1).toNat) 7), .ref (((paC B ((B 101 1).toNat) (B 91 x1) 0 x2 x3) 101 1).toNat)]) (ck_at dt_Bu_buildAhead 19 rfl) own_Bu_buildAhead (cm_at 3 rfl) vk_Tr_innerOf rfl nl_Tr_innerOf rfl rfl rfl rfl (SH.o hS7 ⟨by decide, by decide, by decide⟩) (Y_Tr_innerOf (by omega) hS7 p1 p2 ⟨rfl, rfl⟩) ?_
  refine y_op (ck_at dt_Bu_buildAhead 20 rfl) rfl (o_const _) ?_
  refine y_op (ck_at dt_Bu_buildAhead 21 rfl) rfl (o_const _) ?_
  refine y_ldk (ok := q_isI) (n := 4) (ck_at dt_Bu_buildAhead 22 rfl) rfl rfl (fun _ => rfl) rfl rfl ?_
  refine y_op (ck_at dt_Bu_buildAhead 23 rfl) rfl (o_const _) ?_
  refine y_op (ck_at dt_Bu_buildAhead 24 rfl) rfl o_iadd ?_
  refine y_virt (k' := n_Bu_buildWays) (n := 4) (as := [iv ((paC B ((B 101 1).toNat) (B 91 x1) 0 x2 x3) 93 x1), iv 0, iv 0, iv (x4 + 1)]) (r := [iv x2, iv (B ((B 101 1).toNat) 7), .ref (((paC B ((B 101 1).toNat) (B 91 x1) 0 x2 x3) 101 1).toNat)]) (ck_at dt_Bu_buildAhead 25 rfl) own_Bu_buildAhead (cm_at 1 rfl) vk_Bu_buildWays rfl nl_Bu_buildWays rfl rfl rfl rfl ⟨(SH.o hS7 ⟨by decide, by decide, by decide⟩), ?_⟩
  exact w.mono (Nat.le_refl _) (fun o B' ⟨v, ho, hS', u0, w⟩ => Or.inl ⟨some (iv v), ho, y_wk (c_Bu_buildAhead_45_ok (by omega) hS' u0 w) ⟨rfl, trivial⟩⟩)
/-! PatternTrier$Builder.buildRounds(IIII)I -/
def t_Bu_buildRounds : List (Nat × Instr × Nat) := [(0, .aload_n 0, 1), (1, .getfield 9, 3), (4, .iload_n 1, 1), (5, .invokevirtual 66, 3), (8, .iconst 2, 1), (9, .if_icmp .eq 21, 3), (12, .aload_n 0, 1), (13, .iload_n 1, 1), (14, .aload_n 0, 1), (15, .iload_n 1, 1), (16, .iload_n 2, 1), (17, .iload_n 3, 1), (18, .iload 4, 2), (20, .invokevirtual 69, 3), (23, .iload_n 3, 1), (24, .iload 4, 2), (26, .invokevirtual 72, 3), (29, .ireturn, 1), (30, .aload_n 0, 1), (31, .getfield 15, 3), (34, .bipush 14, 2), (36, .iconst 0, 1), (37, .iload_n 2, 1), (38, .iload_n 3, 1), (39, .invokevirtual 44, 3), (42, .istore 5, 2), (44, .aload_n 0, 1), (45, .iload_n 1, 1), (46, .aload_n 0, 1), (47, .iload_n 1, 1), (48, .iconst 0, 1), (49, .iconst 0, 1), (50, .iload 4, 2), (52, .invokevirtual 69, 3), (55, .iconst 0, 1), (56, .iload 4, 2), (58, .invokevirtual 72, 3), (61, .istore 6, 2), (63, .aload_n 0, 1), (64, .getfield 15, 3), (67, .iload 5, 2), (69, .iload_n 2, 1), (70, .iload 6, 2), (72, .invokevirtual 47, 3), (75, .iload 5, 2), (77, .ireturn, 1)]
set_option maxRecDepth 100000 in
theorem dt_Bu_buildRounds : q_ck n_Bu_buildRounds t_Bu_buildRounds = true := by decide +kernel
def c_Bu_buildRounds_61 (h1 : qH) (d : Nat) (x2 : Int) (x5 : Int) (s0 : Int) (B : qB) (Q : qO → qB → Prop) : Prop := ob 5 ((B 101 1).toNat) ∧ 0 ≤ x5 ∧ x5 < 608 ∧ Q (.inl (some (iv x5))) (u2 (u2 B (((B 101 1).toNat) + 3) x5 x2) (((B 101 1).toNat) + 4) x5 s0)
theorem c_Bu_buildRounds_61_ok {h1 : qH} {d : Nat} {x2 : Int} {x5 : Int} {s0 : Int} {B : qB} {Q : qO → qB → Prop} (hd : 2 ≤ d) (hS : SH B) (w : c_Bu_buildRounds_61 h1 d x2 x5 s0 B Q) : qY h1 (d + 1) n_Bu_buildRounds 61 [some (.ref 101), none, some (iv x2), none, none, some (iv x5), none] [iv s0] B Q := by
  unfold c_Bu_buildRounds_61 at w
  obtain ⟨p1, p2, p3, w⟩ := w
  refine y_st1 (ok := q_isI) (n := 6) (L' := [some (.ref 101), none, some (iv x2), none, none, some (iv x5), some (iv s0)]) (ck_at dt_Bu_buildRounds 37 rfl) rfl (fun _ => rfl) (fun _ _ => rfl) rfl nl_Bu_buildRounds (by decide) rfl rfl ?_
  refine y_ldk (ok := q_isA) (n := 0) (ck_at dt_Bu_buildRounds 38 rfl) rfl rfl (fun _ => rfl) rfl rfl ?_
  refine y_getD (K := 0) (j := 1) (a := 101) (ck_at dt_Bu_buildRounds 39 rfl) own_Bu_buildRounds (cf_at 1 rfl) rfl rfl rfl ⟨(SH.o hS ⟨by decide, by decide, by decide⟩), ?_⟩
  refine y_ldk (ok := q_isI) (n := 5) (ck_at dt_Bu_buildRounds 40 rfl) rfl rfl (fun _ => rfl) rfl rfl ?_
  refine y_ldk (ok := q_isI) (n := 2) (ck_at dt_Bu_buildRounds 41 rfl) rfl rfl (fun _ => rfl) rfl rfl ?_
  refine y_ldk (ok := q_isI) (n := 6) (ck_at dt_Bu_buildRounds 42 rfl) rfl rfl (fun _ => rfl) rfl rfl ?_
  refine y_virtV (k' := n_Pr_branch) (n := 0) (as := [iv x5, iv x2, iv s0]) (r := []) (ck_at dt_Bu_buildRounds 43 rfl) own_Bu_buildRounds (cm_at 7 rfl) vk_Pr_branch rfl nl_Pr_branch rfl rfl rfl rfl (SH.o hS p1) (Y_Pr_branch (by omega) hS p1 p2 p3 ⟨rfl, rfl⟩) ?_
  have hS4 := SH_u2 (b := ((B 101 1).toNat) + 3) (x := x5) (z := x2) hS p2
  have hS5 := SH_u2 (b := ((B 101 1).toNat) + 4) (x := x5) (z := s0) hS4 p2
  refine y_ldk (ok := q_isI) (n := 5) (ck_at dt_Bu_buildRounds 44 rfl) rfl rfl (fun _ => rfl) rfl rfl ?_
  exact y_retI (ck_at dt_Bu_buildRounds 45 rfl) rt_Bu_buildRounds w
def c_Bu_buildRounds_55 (h1 : qH) (d : Nat) (x2 : Int) (x4 : Int) (x5 : Int) (s1 : Int) (s2 : Int) (B : qB) (Q : qO → qB → Prop) : Prop := qY h1 d n_Bu_buildLeast 0 [some (.ref 101), some (iv s1), some (iv s2), some (iv 0), some (iv x4), none, none] [] B (fun o B' => ∃ v : Int, o = .inl (some (iv v)) ∧ SH B' ∧ c_Bu_buildRounds_61 h1 d x2 x5 v B' Q)
theorem c_Bu_buildRounds_55_ok {h1 : qH} {d : Nat} {x2 : Int} {x4 : Int} {x5 : Int} {s1 : Int} {s2 : Int} {B : qB} {Q : qO → qB → Prop} (hd : 2 ≤ d) (hS : SH B) (w : c_Bu_buildRounds_55 h1 d x2 x4 x5 s1 s2 B Q) : qY h1 (d + 1) n_Bu_buildRounds 55 [some (.ref 101), none, some (iv x2), none, some (iv x4), some (iv x5), none] [iv s2, iv s1, .ref 101] B Q := by
  unfold c_Bu_buildRounds_55 at w
  refine y_op (ck_at dt_Bu_buildRounds 34 rfl) rfl (o_const _) ?_
  refine y_ldk (ok := q_isI) (n := 4) (ck_at dt_Bu_buildRounds 35 rfl) rfl rfl (fun _ => rfl) rfl rfl ?_
  refine y_virt (k' := n_Bu_buildLeast) (n := 2) (as := [iv s1, iv s2, iv 0, iv x4]) (r := []) (ck_at dt_Bu_buildRounds 36 rfl) own_Bu_buildRounds (cm_at 15 rfl) vk_Bu_buildLeast rfl nl_Bu_buildLeast rfl rfl rfl rfl ⟨(SH.o hS ⟨by decide, by decide, by decide⟩), ?_⟩
  exact w.mono (Nat.le_refl _) (fun o B' ⟨v, ho, hS', w⟩ => Or.inl ⟨some (iv v), ho, y_wk (c_Bu_buildRounds_61_ok (by omega) hS' w) ⟨rfl, ⟨rfl, ⟨rfl, trivial⟩⟩⟩⟩)
def c_Bu_buildRounds_29 (h1 : qH) (d : Nat) (s0 : Int) (B : qB) (Q : qO → qB → Prop) : Prop := Q (.inl (some (iv s0))) B
theorem c_Bu_buildRounds_29_ok {h1 : qH} {d : Nat} {s0 : Int} {B : qB} {Q : qO → qB → Prop} (hd : 2 ≤ d) (hS : SH B) (w : c_Bu_buildRounds_29 h1 d s0 B Q) : qY h1 (d + 1) n_Bu_buildRounds 29 [none, none, none, none, none, none, none] [iv s0] B Q := by
  unfold c_Bu_buildRounds_29 at w
  exact y_retI (ck_at dt_Bu_buildRounds 17 rfl) rt_Bu_buildRounds w
def c_Bu_buildRounds_23 (h1 : qH) (d : Nat) (x3 : Int) (x4 : Int) (s1 : Int) (s2 : Int) (B : qB) (Q : qO → qB → Prop) : Prop := qY h1 d n_Bu_buildLeast 0 [some (.ref 101), some (iv s1), some (iv s2), some (iv x3), some (iv x4), none, none] [] B (fun o B' => ∃ v : Int, o = .inl (some (iv v)) ∧ SH B' ∧ c_Bu_buildRounds_29 h1 d v B' Q)
theorem c_Bu_buildRounds_23_ok {h1 : qH} {d : Nat} {x3 : Int} {x4 : Int} {s1 : Int} {s2 : Int} {B : qB} {Q : qO → qB → Prop} (hd : 2 ≤ d) (hS : SH B) (w : c_Bu_buildRounds_23 h1 d x3 x4 s1 s2 B Q) : qY h1 (d + 1) n_Bu_buildRounds 23 [none, none, none, some (iv x3), some (iv x4), none, none] [iv s2, iv s1, .ref 101] B Q := by
  unfold c_Bu_buildRounds_23 at w
  refine y_ldk (ok := q_isI) (n := 3) (ck_at dt_Bu_buildRounds 14 rfl) rfl rfl (fun _ => rfl) rfl rfl ?_
  refine y_ldk (ok := q_isI) (n := 4) (ck_at dt_Bu_buildRounds 15 rfl) rfl rfl (fun _ => rfl) rfl rfl ?_
  refine y_virt (k' := n_Bu_buildLeast) (n := 2) (as := [iv s1, iv s2, iv x3, iv x4]) (r := []) (ck_at dt_Bu_buildRounds 16 rfl) own_Bu_buildRounds (cm_at 15 rfl) vk_Bu_buildLeast rfl nl_Bu_buildLeast rfl rfl rfl rfl ⟨(SH.o hS ⟨by decide, by decide, by decide⟩), ?_⟩
  exact w.mono (Nat.le_refl _) (fun o B' ⟨v, ho, hS', w⟩ => Or.inl ⟨some (iv v), ho, y_wk (c_Bu_buildRounds_29_ok (by omega) hS' w) trivial⟩)
def c_Bu_buildRounds_0 (h1 : qH) (d : Nat) (x1 : Int) (x2 : Int) (x3 : Int) (x4 : Int) (B : qB) (Q : qO → qB → Prop) : Prop := 0 ≤ x1 ∧ x1 < 408 ∧ R32 (B 92 x1) ∧ (B 92 x1 = 2 → ob 5 ((B 101 1).toNat) ∧ 0 ≤ B ((B 101 1).toNat) 7 ∧ B ((B 101 1).toNat) 7 < 608 ∧ qY h1 d n_Bu_buildMore 0 [some (.ref 101), some (iv x1), some (iv 0), some (iv 0), some (iv x4), none, none, none, none, none] [] (paC B ((B 101 1).toNat) 14 0 x2 x3) (fun o B' => ∃ v : Int, o = .inl (some (iv v)) ∧ SH B' ∧ c_Bu_buildRounds_55 h1 d x2 x4 (B ((B 101 1).toNat) 7) x1 v B' Q)) ∧ (¬ B 92 x1 = 2 → qY h1 d n_Bu_buildMore 0 [some (.ref 101), some (iv x1), some (iv x2), some (iv x3), some (iv x4), none, none, none, none, none] [] B (fun o B' => ∃ v : Int, o = .inl (some (iv v)) ∧ SH B' ∧ c_Bu_buildRounds_23 h1 d x3 x4 x1 v B' Q))
theorem c_Bu_buildRounds_0_ok {h1 : qH} {d : Nat} {x1 : Int} {x2 : Int} {x3 : Int} {x4 : Int} {B : qB} {Q : qO → qB → Prop} (hd : 2 ≤ d) (hS : SH B) (w : c_Bu_buildRounds_0 h1 d x1 x2 x3 x4 B Q) : qY h1 (d + 1) n_Bu_buildRounds 0 [some (.ref 101), some (iv x1), some (iv x2), some (iv x3), some (iv x4), none, none] [] B Q := by
  unfold c_Bu_buildRounds_0 at w
  obtain ⟨p1, p2, p3, w⟩ := w
  refine y_ldk (ok := q_isA) (n := 0) (ck_at dt_Bu_buildRounds 0 rfl) rfl rfl (fun _ => rfl) rfl rfl ?_
  refine y_getF (r := 90) (K := 0) (j := 0) (a := 101) (ck_at dt_Bu_buildRounds 1 rfl) own_Bu_buildRounds (cf_at 0 rfl) rfl rfl ⟨(SH.o hS ⟨by decide, by decide, by decide⟩), ?_⟩
  refine y_ldk (ok := q_isI) (n := 1) (ck_at dt_Bu_buildRounds 2 rfl) rfl rfl (fun _ => rfl) rfl rfl ?_
  refine y_virtP (k' := n_Tr_valueOf) (n := 0) (as := [iv x1]) (r := []) (ck_at dt_Bu_buildRounds 3 rfl) own_Bu_buildRounds (cm_at 13 rfl) vk_Tr_valueOf rfl nl_Tr_valueOf rfl rfl rfl rfl (SH.o hS ⟨by decide, by decide, by decide⟩) (Y_Tr_valueOf (by omega) hS p1 p2 ⟨rfl, rfl⟩) ?_
  refine y_op (ck_at dt_Bu_buildRounds 4 rfl) rfl (o_const _) ?_
  refine y_icmp (t := 30) (ck_at dt_Bu_buildRounds 5 rfl) rfl p3 ⟨by decide, by decide⟩ ?_ ?_
  · intro q; have w := w.1 q
    obtain ⟨p4, p5, p6, w⟩ := w
    refine y_ldk (ok := q_isA) (n := 0) (ck_at dt_Bu_buildRounds 18 rfl) rfl rfl (fun _ => rfl) rfl rfl ?_
    refine y_getD (K := 0) (j := 1) (a := 101) (ck_at dt_Bu_buildRounds 19 rfl) own_Bu_buildRounds (cf_at 1 rfl) rfl rfl rfl ⟨(SH.o hS ⟨by decide, by decide, by decide⟩), ?_⟩
    refine y_op (ck_at dt_Bu_buildRounds 20 rfl) rfl (o_bipush _ (by decide)) ?_
    refine y_op (ck_at dt_Bu_buildRounds 21 rfl) rfl (o_const _) ?_
    refine y_ldk (ok := q_isI) (n := 2) (ck_at dt_Bu_buildRounds 22 rfl) rfl rfl (fun _ => rfl) rfl rfl ?_
    refine y_ldk (ok := q_isI) (n := 3) (ck_at dt_Bu_buildRounds 23 rfl) rfl rfl (fun _ => rfl) rfl rfl ?_
    refine y_virtP (k' := n_Pr_add) (n := 1) (as := [iv 14, iv 0, iv x2, iv x3]) (r := []) (ck_at dt_Bu_buildRounds 24 rfl) own_Bu_buildRounds (cm_at 6 rfl) vk_Pr_add rfl nl_Pr_add rfl rfl rfl rfl (SH.o hS p4) (Y_Pr_add (by omega) hS p4 p5 p6 ⟨by decide, by decide⟩ ⟨rfl, rfl⟩) ?_
    have hS7 : SH (paC B ((B 101 1).toNat) 14 0 x2 x3) := S_Pr_add hS p4 p5 p6 ⟨by decide, by decide⟩
    refine y_st1 (ok := q_isI) (n := 5) (L' := [some (.ref 101), some (iv x1), some (iv x2), some (iv x3), some (iv x4), some (iv (B ((B 101 1).toNat) 7)), none]) (ck_at dt_Bu_buildRounds 25 rfl) rfl (fun _ => rfl) (fun _ _ => rfl) rfl nl_Bu_buildRounds (by decide) rfl rfl ?_
    refine y_ldk (ok := q_isA) (n := 0) (ck_at dt_Bu_buildRounds 26 rfl) rfl rfl (fun _ => rfl) rfl rfl ?_
    refine y_ldk (ok := q_isI) (n := 1) (ck_at dt_Bu_buildRounds 27 rfl) rfl rfl (fun _ => rfl) rfl rfl ?_
    refine y_ldk (ok := q_isA) (n := 0) (ck_at dt_Bu_buildRounds 28 rfl) rfl rfl (fun _ => rfl) rfl rfl ?_
    refine y_ldk (ok := q_isI) (n := 1) (ck_at dt_Bu_buildRounds 29 rfl) rfl rfl (fun _ => rfl) rfl rfl ?_
    refine y_op (ck_at dt_Bu_buildRounds 30 rfl) rfl (o_const _) ?_
    refine y_op (ck_at dt_Bu_buildRounds 31 rfl) rfl (o_const _) ?_
    refine y_ldk (ok := q_isI) (n := 4) (ck_at dt_Bu_buildRounds 32 rfl) rfl rfl (fun _ => rfl) rfl rfl ?_
    refine y_virt (k' := n_Bu_buildMore) (n := 5) (as := [iv x1, iv 0, iv 0, iv x4]) (r := [iv x1, .ref 101]) (ck_at dt_Bu_buildRounds 33 rfl) own_Bu_buildRounds (cm_at 14 rfl) vk_Bu_buildMore rfl nl_Bu_buildMore rfl rfl rfl rfl ⟨(SH.o hS7 ⟨by decide, by decide, by decide⟩), ?_⟩
    exact w.mono (Nat.le_refl _) (fun o B' ⟨v, ho, hS', w⟩ => Or.inl ⟨some (iv v), ho, y_wk (c_Bu_buildRounds_55_ok (by omega) hS' w) ⟨rfl, ⟨rfl, ⟨rfl, ⟨rfl, trivial⟩⟩⟩⟩⟩)
  · intro q; have w := w.2 q
    refine y_ldk (ok := q_isA) (n := 0) (ck_at dt_Bu_buildRounds 6 rfl) rfl rfl (fun _ => rfl) rfl rfl ?_
    refine y_ldk (ok := q_isI) (n := 1) (ck_at dt_Bu_buildRounds 7 rfl) rfl rfl (fun _ => rfl) rfl rfl ?_
    refine y_ldk (ok := q_isA) (n := 0) (ck_at dt_Bu_buildRounds 8 rfl) rfl rfl (fun _ => rfl) rfl rfl ?_
    refine y_ldk (ok := q_isI) (n := 1) (ck_at dt_Bu_buildRounds 9 rfl) rfl rfl (fun _ => rfl) rfl rfl ?_
    refine y_ldk (ok := q_isI) (n := 2) (ck_at dt_Bu_buildRounds 10 rfl) rfl rfl (fun _ => rfl) rfl rfl ?_
    refine y_ldk (ok := q_isI) (n := 3) (ck_at dt_Bu_buildRounds 11 rfl) rfl rfl (fun _ => rfl) rfl rfl ?_
    refine y_ldk (ok := q_isI) (n := 4) (ck_at dt_Bu_buildRounds 12 rfl) rfl rfl (fun _ => rfl) rfl rfl ?_
    refine y_virt (k' := n_Bu_buildMore) (n := 5) (as := [iv x1, iv x2, iv x3, iv x4]) (r := [iv x1, .ref 101]) (ck_at dt_Bu_buildRounds 13 rfl) own_Bu_buildRounds (cm_at 14 rfl) vk_Bu_buildMore rfl nl_Bu_buildMore rfl rfl rfl rfl ⟨(SH.o hS ⟨by decide, by decide, by decide⟩), ?_⟩
    exact w.mono (Nat.le_refl _) (fun o B' ⟨v, ho, hS', w⟩ => Or.inl ⟨some (iv v), ho, y_wk (c_Bu_buildRounds_23_ok (by omega) hS' w) ⟨rfl, ⟨rfl, trivial⟩⟩⟩)
/-! PatternTrier$Builder.buildLeast(IIII)I -/
def t_Bu_buildLeast : List (Nat × Instr × Nat) := [(0, .iload_n 2, 1), (1, .istore 5, 2), (3, .iconst 0, 1), (4, .istore 6, 2), (6, .iload 6, 2), (8, .aload_n 0, 1), (9, .getfield 9, 3), (12, .iload_n 1, 1), (13, .invokevirtual 75, 3), (16, .if_icmp .ge 28, 3), (19, .aload_n 0, 1), (20, .aload_n 0, 1), (21, .getfield 9, 3), (24, .iload_n 1, 1), (25, .invokevirtual 32, 3), (28, .iload 5, 2), (30, .iload_n 3, 1), (31, .iload 4, 2), (33, .invokevirtual 51, 3), (36, .istore 5, 2), (38, .iinc 6 1, 3), (41, .goto (-35), 3), (44, .iload 5, 2), (46, .ireturn, 1)]
set_option maxRecDepth 100000 in
theorem dt_Bu_buildLeast : q_ck n_Bu_buildLeast t_Bu_buildLeast = true := by decide +kernel
def c_Bu_buildLeast_36 (h1 : qH) (d : Nat) (x1 : Int) (x3 : Int) (x4 : Int) (x6 : Int) (s0 : Int) (B : qB) (Q : qO → qB → Prop) : Prop := qY h1 (d + 1) n_Bu_buildLeast 6 [some (.ref 101), some (iv x1), none, some (iv x3), some (iv x4), some (iv s0), some (iv (x6 + 1))] [] B Q
theorem c_Bu_buildLeast_36_ok {h1 : qH} {d : Nat} {x1 : Int} {x3 : Int} {x4 : Int} {x6 : Int} {s0 : Int} {B : qB} {Q : qO → qB → Prop} (hd : 2 ≤ d) (hS : SH B) (w : c_Bu_buildLeast_36 h1 d x1 x3 x4 x6 s0 B Q) : qY h1 (d + 1) n_Bu_buildLeast 36 [some (.ref 101), some (iv x1), none, some (iv x3), some (iv x4), none, some (iv x6)] [iv s0] B Q := by
  unfold c_Bu_buildLeast_36 at w
  refine y_st1 (ok := q_isI) (n := 5) (L' := [some (.ref 101), some (iv x1), none, some (iv x3), some (iv x4), some (iv s0), some (iv x6)]) (ck_at dt_Bu_buildLeast 19 rfl) rfl (fun _ => rfl) (fun _ _ => rfl) rfl nl_Bu_buildLeast (by decide) rfl rfl ?_
  refine y_iinc (n := 6) (L' := [some (.ref 101), some (iv x1), none, some (iv x3), some (iv x4), some (iv s0), some (iv (x6 + 1))]) (ck_at dt_Bu_buildLeast 20 rfl) rfl nl_Bu_buildLeast (by decide) rfl rfl ?_
  refine y_goto (t := 6) (ck_at dt_Bu_buildLeast 21 rfl) rfl ?_
  exact y_wk w ⟨rfl, ⟨rfl, ⟨rfl, ⟨rfl, ⟨rfl, ⟨rfl, trivial⟩⟩⟩⟩⟩⟩
def c_Bu_buildLeast_6 (h1 : qH) (d : Nat) (x1 : Int) (x3 : Int) (x4 : Int) (x5 : Int) (x6 : Int) (B : qB) (Q : qO → qB → Prop) : Prop := 0 ≤ x1 ∧ x1 < 408 ∧ R32 x6 ∧ R32 (B 95 x1) ∧ (x6 ≥ B 95 x1 → Q (.inl (some (iv x5))) B) ∧ (x6 < B 95 x1 → qY h1 d n_Bu_buildPart 0 [some (.ref 101), some (iv (B 93 x1)), some (iv x5), some (iv x3), some (iv x4), none] [] B (fun o B' => ∃ v : Int, o = .inl (some (iv v)) ∧ SH B' ∧ c_Bu_buildLeast_36 h1 d x1 x3 x4 x6 v B' Q))
theorem c_Bu_buildLeast_6_ok {h1 : qH} {d : Nat} {x1 : Int} {x3 : Int} {x4 : Int} {x5 : Int} {x6 : Int} {B : qB} {Q : qO → qB → Prop} (hd : 2 ≤ d) (hS : SH B) (w : c_Bu_buildLeast_6 h1 d x1 x3 x4 x5 x6 B Q) : qY h1 (d + 1) n_Bu_buildLeast 6 [some (.ref 101), some (iv x1), none, some (iv x3), some (iv x4), some (iv x5), some (iv x6)] [] B Q := by
  unfold c_Bu_buildLeast_6 at w
  obtain ⟨p1, p2, p3, p4, w⟩ := w
  refine y_ldk (ok := q_isI) (n := 6) (ck_at dt_Bu_buildLeast 4 rfl) rfl rfl (fun _ => rfl) rfl rfl ?_
  refine y_ldk (ok := q_isA) (n := 0) (ck_at dt_Bu_buildLeast 5 rfl) rfl rfl (fun _ => rfl) rfl rfl ?_
  refine y_getF (r := 90) (K := 0) (j := 0) (a := 101) (ck_at dt_Bu_buildLeast 6 rfl) own_Bu_buildLeast (cf_at 0 rfl) rfl rfl ⟨(SH.o hS ⟨by decide, by decide, by decide⟩), ?_⟩
  refine y_ldk (ok := q_isI) (n := 1) (ck_at dt_Bu_buildLeast 7 rfl) rfl rfl (fun _ => rfl) rfl rfl ?_
  refine y_virtP (k' := n_Tr_leastOf) (n := 0) (as := [iv x1]) (r := [iv x6]) (ck_at dt_Bu_buildLeast 8 rfl) own_Bu_buildLeast (cm_at 16 rfl) vk_Tr_leastOf rfl nl_Tr_leastOf rfl rfl rfl rfl (SH.o hS ⟨by decide, by decide, by decide⟩) (Y_Tr_leastOf (by omega) hS p1 p2 ⟨rfl, rfl⟩) ?_
  refine y_icmp (t := 44) (ck_at dt_Bu_buildLeast 9 rfl) rfl p3 p4 ?_ ?_
  · intro q; have w := w.1 q
    refine y_ldk (ok := q_isI) (n := 5) (ck_at dt_Bu_buildLeast 22 rfl) rfl rfl (fun _ => rfl) rfl rfl ?_
    exact y_retI (ck_at dt_Bu_buildLeast 23 rfl) rt_Bu_buildLeast w
  · intro q; have w := w.2 q
    refine y_ldk (ok := q_isA) (n := 0) (ck_at dt_Bu_buildLeast 10 rfl) rfl rfl (fun _ => rfl) rfl rfl ?_
    refine y_ldk (ok := q_isA) (n := 0) (ck_at dt_Bu_buildLeast 11 rfl) rfl rfl (fun _ => rfl) rfl rfl ?_
    refine y_getF (r := 90) (K := 0) (j := 0) (a := 101) (ck_at dt_Bu_buildLeast 12 rfl) own_Bu_buildLeast (cf_at 0 rfl) rfl rfl ⟨(SH.o hS ⟨by decide, by decide, by decide⟩), ?_⟩
    refine y_ldk (ok := q_isI) (n := 1) (ck_at dt_Bu_buildLeast 13 rfl) rfl rfl (fun _ => rfl) rfl rfl ?_
    refine y_virtP (k' := n_Tr_innerOf) (n := 0) (as := [iv x1]) (r := [.ref 101]) (ck_at dt_Bu_buildLeast 14 rfl) own_Bu_buildLeast (cm_at 3 rfl) vk_Tr_innerOf rfl nl_Tr_innerOf rfl rfl rfl rfl (SH.o hS ⟨by decide, by decide, by decide⟩) (Y_Tr_innerOf (by omega) hS p1 p2 ⟨rfl, rfl⟩) ?_
    refine y_ldk (ok := q_isI) (n := 5) (ck_at dt_Bu_buildLeast 15 rfl) rfl rfl (fun _ => rfl) rfl rfl ?_
    refine y_ldk (ok := q_isI) (n := 3) (ck_at dt_Bu_buildLeast 16 rfl) rfl rfl (fun _ => rfl) rfl rfl ?_
    refine y_ldk (ok := q_isI) (n := 4) (ck_at dt_Bu_buildLeast 17 rfl) rfl rfl (fun _ => rfl) rfl rfl ?_
    refine y_virt (k' := n_Bu_buildPart) (n := 1) (as := [iv (B 93 x1), iv x5, iv x3, iv x4]) (r := []) (ck_at dt_Bu_buildLeast 18 rfl) own_Bu_buildLeast (cm_at 8 rfl) vk_Bu_buildPart rfl nl_Bu_buildPart rfl rfl rfl rfl ⟨(SH.o hS ⟨by decide, by decide, by decide⟩), ?_⟩
    exact w.mono (Nat.le_refl _) (fun o B' ⟨v, ho, hS', w⟩ => Or.inl ⟨some (iv v), ho, y_wk (c_Bu_buildLeast_36_ok (by omega) hS' w) ⟨rfl, ⟨rfl, ⟨rfl, ⟨rfl, ⟨rfl, trivial⟩⟩⟩⟩⟩⟩)
def c_Bu_buildLeast_0 (h1 : qH) (d : Nat) (x1 : Int) (x2 : Int) (x3 : Int) (x4 : Int) (B : qB) (Q : qO → qB → Prop) : Prop := qY h1 (d + 1) n_Bu_buildLeast 6 [some (.ref 101), some (iv x1), none, some (iv x3), some (iv x4), some (iv x2), some (iv 0)] [] B Q
theorem c_Bu_buildLeast_0_ok {h1 : qH} {d : Nat} {x1 : Int} {x2 : Int} {x3 : Int} {x4 : Int} {B : qB} {Q : qO → qB → Prop} (hd : 2 ≤ d) (hS : SH B) (w : c_Bu_buildLeast_0 h1 d x1 x2 x3 x4 B Q) : qY h1 (d + 1) n_Bu_buildLeast 0 [some (.ref 101), some (iv x1), some (iv x2), some (iv x3), some (iv x4), none, none] [] B Q := by
  unfold c_Bu_buildLeast_0 at w
  refine y_ldk (ok := q_isI) (n := 2) (ck_at dt_Bu_buildLeast 0 rfl) rfl rfl (fun _ => rfl) rfl rfl ?_
  refine y_st1 (ok := q_isI) (n := 5) (L' := [some (.ref 101), some (iv x1), some (iv x2), some (iv x3), some (iv x4), some (iv x2), none]) (ck_at dt_Bu_buildLeast 1 rfl) rfl (fun _ => rfl) (fun _ _ => rfl) rfl nl_Bu_buildLeast (by decide) rfl rfl ?_
  refine y_op (ck_at dt_Bu_buildLeast 2 rfl) rfl (o_const _) ?_
  refine y_st1 (ok := q_isI) (n := 6) (L' := [some (.ref 101), some (iv x1), some (iv x2), some (iv x3), some (iv x4), some (iv x2), some (iv 0)]) (ck_at dt_Bu_buildLeast 3 rfl) rfl (fun _ => rfl) (fun _ _ => rfl) rfl nl_Bu_buildLeast (by decide) rfl rfl ?_
  exact y_wk w ⟨rfl, ⟨rfl, ⟨rfl, ⟨rfl, ⟨rfl, ⟨rfl, trivial⟩⟩⟩⟩⟩⟩
/-! PatternTrier$Builder.buildMore(IIII)I -/
def t_Bu_buildMore : List (Nat × Instr × Nat) := [(0, .aload_n 0, 1), (1, .getfield 9, 3), (4, .iload_n 1, 1), (5, .invokevirtual 32, 3), (8, .istore 5, 2), (10, .aload_n 0, 1), (11, .getfield 9, 3), (14, .iload_n 1, 1), (15, .invokevirtual 66, 3), (18, .iconst 1, 1), (19, .if_icmp .ne 7, 3), (22, .iconst 1, 1), (23, .goto 4, 3), (26, .iconst 0, 1), (27, .istore 6, 2), (29, .aload_n 0, 1), (30, .getfield 9, 3), (33, .iload_n 1, 1), (34, .invokevirtual 78, 3), (37, .iconst (-1), 1), (38, .if_icmp .ne 59, 3), (41, .aload_n 0, 1), (42, .getfield 15, 3), (45, .bipush 15, 2), (47, .iconst 0, 1), (48, .iconst 0, 1), (49, .iload_n 3, 1), (50, .invokevirtual 44, 3), (53, .istore 7, 2), (55, .aload_n 0, 1), (56, .getfield 15, 3), (59, .bipush 16, 2), (61, .iload_n 3, 1), (62, .iconst 1, 1), (63, .iadd, 1), (64, .iload 7, 2), (66, .iload_n 3, 1), (67, .invokevirtual 44, 3), (70, .istore 8, 2), (72, .aload_n 0, 1), (73, .iload 7, 2), (75, .aload_n 0, 1), (76, .iload 5, 2), (78, .iload 8, 2), (80, .iload_n 3, 1), (81, .iconst 1, 1), (82, .iadd, 1), (83, .iload 4, 2), (85, .invokevirtual 51, 3), (88, .iload_n 2, 1), (89, .iload 6, 2), (91, .invokevirtual 81, 3), (94, .iload 7, 2), (96, .ireturn, 1), (97, .iload_n 2, 1), (98, .istore 7, 2), (100, .aload_n 0, 1), (101, .getfield 9, 3), (104, .iload_n 1, 1), (105, .invokevirtual 75, 3), (108, .istore 8, 2), (110, .iload 8, 2), (112, .aload_n 0, 1), (113, .getfield 9, 3), (116, .iload_n 1, 1), (117, .invokevirtual 78, 3), (120, .if_icmp .ge 47, 3), (123, .aload_n 0, 1), (124, .getfield 15, 3), (127, .bipush 15, 2), (129, .iconst 0, 1), (130, .iconst 0, 1), (131, .iload_n 3, 1), (132, .invokevirtual 44, 3), (135, .istore 9, 2), (137, .aload_n 0, 1), (138, .iload 9, 2), (140, .aload_n 0, 1), (141, .iload 5, 2), (143, .iload 7, 2), (145, .iload_n 3, 1), (146, .iload 4, 2), (148, .invokevirtual 51, 3), (151, .iload_n 2, 1), (152, .iload 6, 2), (154, .invokevirtual 81, 3), (157, .iload 9, 2), (159, .istore 7, 2), (161, .iinc 8 1, 3), (164, .goto (-54), 3), (167, .iload 7, 2), (169, .ireturn, 1)]
set_option maxRecDepth 100000 in
theorem dt_Bu_buildMore : q_ck n_Bu_buildMore t_Bu_buildMore = true := by decide +kernel
def c_Bu_buildMore_151 (h1 : qH) (d : Nat) (x1 : Int) (x2 : Int) (x3 : Int) (x4 : Int) (x5 : Int) (x6 : Int) (x8 : Int) (x9 : Int) (s1 : Int) (s2 : Int) (B : qB) (Q : qO → qB → Prop) : Prop := ob 5 (B 101 1).toNat ∧ 0 ≤ s1 ∧ s1 < 608 ∧ (x6 = 0 ∨ x6 = 1) ∧ qY h1 (d + 1) n_Bu_buildMore 110 [some (.ref 101), some (iv x1), some (iv x2), some (iv x3), some (iv x4), some (iv x5), some (iv x6), some (iv x9), some (iv (x8 + 1)), none] [] (bbC B s1 s2 x2 x6) Q
theorem c_Bu_buildMore_151_ok {h1 : qH} {d : Nat} {x1 : Int} {x2 : Int} {x3 : Int} {x4 : Int} {x5 : Int} {x6 : Int} {x8 : Int} {x9 : Int} {s1 : Int} {s2 : Int} {B : qB} {Q : qO → qB → Prop} (hd : 3 ≤ d) (hS : SH B) (w : c_Bu_buildMore_151 h1 d x1 x2 x3 x4 x5 x6 x8 x9 s1 s2 B Q) : qY h1 (d + 1) n_Bu_buildMore 151 [some (.ref 101), some (iv x1), some (iv x2), some (iv x3), some (iv x4), some (iv x5), some (iv x6), none, some (iv x8), some (iv x9)] [iv s2, iv s1, .ref 101] B Q := by
  unfold c_Bu_buildMore_151 at w
  obtain ⟨p1, p2, p3, p4, w⟩ := w
  refine y_ldk (ok := q_isI) (n := 2) (ck_at dt_Bu_buildMore 83 rfl) rfl rfl (fun _ => rfl) rfl rfl ?_
  refine y_ldk (ok := q_isI) (n := 6) (ck_at dt_Bu_buildMore 84 rfl) rfl rfl (fun _ => rfl) rfl rfl ?_
  refine y_virtV (k' := n_Bu_branch) (n := 0) (as := [iv s1, iv s2, iv x2, iv x6]) (r := []) (ck_at dt_Bu_buildMore 85 rfl) own_Bu_buildMore (cm_at 18 rfl) vk_Bu_branch rfl nl_Bu_branch rfl rfl rfl rfl (SH.o hS ⟨by decide, by decide, by decide⟩) (Y_Bu_branch (by omega) hS p1 p2 p3 p4 ⟨rfl, rfl⟩) ?_
  have hS5 : SH (bbC B s1 s2 x2 x6) := S_Bu_branch hS p1 p2 p3 p4
  refine y_ldk (ok := q_isI) (n := 9) (ck_at dt_Bu_buildMore 86 rfl) rfl rfl (fun _ => rfl) rfl rfl ?_
  refine y_st1 (ok := q_isI) (n := 7) (L' := [some (.ref 101), some (iv x1), some (iv x2), some (iv x3), some (iv x4), some (iv x5), some (iv x6), some (iv x9), some (iv x8), some (iv x9)]) (ck_at dt_Bu_buildMore 87 rfl) rfl (fun _ => rfl) (fun _ _ => rfl) rfl nl_Bu_buildMore (by decide) rfl rfl ?_
  refine y_iinc (n := 8) (L' := [some (.ref 101), some (iv x1), some (iv x2), some (iv x3), some (iv x4), some (iv x5), some (iv x6), some (iv x9), some (iv (x8 + 1)), some (iv x9)]) (ck_at dt_Bu_buildMore 88 rfl) rfl nl_Bu_buildMore (by decide) rfl rfl ?_
  refine y_goto (t := 110) (ck_at dt_Bu_buildMore 89 rfl) rfl ?_
  exact y_wk w ⟨rfl, ⟨rfl, ⟨rfl, ⟨rfl, ⟨rfl, ⟨rfl, ⟨rfl, ⟨rfl, ⟨rfl, trivial⟩⟩⟩⟩⟩⟩⟩⟩⟩
def c_Bu_buildMore_110 (h1 : qH) (d : Nat) (x1 : Int) (x2 : Int) (x3 : Int) (x4 : Int) (x5 : Int) (x6 : Int) (x7 : Int) (x8 : Int) (B : qB) (Q : qO → qB → Prop) : Prop := 0 ≤ x1 ∧ x1 < 408 ∧ R32 x8 ∧ R32 (B 96 x1) ∧ (x8 ≥ B 96 x1 → Q (.inl (some (iv x7))) B) ∧ (x8 < B 96 x1 → ob 5 ((B 101 1).toNat) ∧ 0 ≤ B ((B 101 1).toNat) 7 ∧ B ((B 101 1).toNat) 7 < 608 ∧ qY h1 d n_Bu_buildPart 0 [some (.ref 101), some (iv x5), some (iv x7), some (iv x3), some (iv x4), none] [] (paC B ((B 101 1).toNat) 15 0 0 x3) (fun o B' => ∃ v : Int, o = .inl (some (iv v)) ∧ SH B' ∧ c_Bu_buildMore_151 h1 d x1 x2 x3 x4 x5 x6 x8 (B ((B 101 1).toNat) 7) (B ((B 101 1).toNat) 7) v B' Q))
theorem c_Bu_buildMore_110_ok {h1 : qH} {d : Nat} {x1 : Int} {x2 : Int} {x3 : Int} {x4 : Int} {x5 : Int} {x6 : Int} {x7 : Int} {x8 : Int} {B : qB} {Q : qO → qB → Prop} (hd : 3 ≤ d) (hS : SH B) (w : c_Bu_buildMore_110 h1 d x1 x2 x3 x4 x5 x6 x7 x8 B Q) : qY h1 (d + 1) n_Bu_buildMore 110 [some (.ref 101), some (iv x1), some (iv x2), some (iv x3), some (iv x4), some (iv x5), some (iv x6), some (iv x7), some (iv x8), none] [] B Q := by
  unfold c_Bu_buildMore_110 at w
  obtain ⟨p1, p2, p3, p4, w⟩ := w
  refine y_ldk (ok := q_isI) (n := 8) (ck_at dt_Bu_buildMore 61 rfl) rfl rfl (fun _ => rfl) rfl rfl ?_
  refine y_ldk (ok := q_isA) (n := 0) (ck_at dt_Bu_buildMore 62 rfl) rfl rfl (fun _ => rfl) rfl rfl ?_
  refine y_getF (r := 90) (K := 0) (j := 0) (a := 101) (ck_at dt_Bu_buildMore 63 rfl) own_Bu_buildMore (cf_at 0 rfl) rfl rfl ⟨(SH.o hS ⟨by decide, by decide, by decide⟩), ?_⟩
  refine y_ldk (ok := q_isI) (n := 1) (ck_at dt_Bu_buildMore 64 rfl) rfl rfl (fun _ => rfl) rfl rfl ?_
  refine y_virtP (k' := n_Tr_mostOf) (n := 0) (as := [iv x1]) (r := [iv x8]) (ck_at dt_Bu_buildMore 65 rfl) own_Bu_buildMore (cm_at 17 rfl) vk_Tr_mostOf rfl nl_Tr_mostOf rfl rfl rfl rfl (SH.o hS ⟨by decide, by decide, by decide⟩) (Y_Tr_mostOf (by omega) hS p1 p2 ⟨rfl, rfl⟩) ?_
  refine y_icmp (t := 167) (ck_at dt_Bu_buildMore 66 rfl) rfl p3 p4 ?_ ?_
  · intro q; have w := w.1 q
    refine y_ldk (ok := q_isI) (n := 7) (ck_at dt_Bu_buildMore 90 rfl) rfl rfl (fun _ => rfl) rfl rfl ?_
    exact y_retI (ck_at dt_Bu_buildMore 91 rfl) rt_Bu_buildMore w
  · intro q; have w := w.2 q
    obtain ⟨p5, p6, p7, w⟩ := w
    refine y_ldk (ok := q_isA) (n := 0) (ck_at dt_Bu_buildMore 67 rfl) rfl rfl (fun _ => rfl) rfl rfl ?_
    refine y_getD (K := 0) (j := 1) (a := 101) (ck_at dt_Bu_buildMore 68 rfl) own_Bu_buildMore (cf_at 1 rfl) rfl rfl rfl ⟨(SH.o hS ⟨by decide, by decide, by decide⟩), ?_⟩
    refine y_op (ck_at dt_Bu_buildMore 69 rfl) rfl (o_bipush _ (by decide)) ?_
    refine y_op (ck_at dt_Bu_buildMore 70 rfl) rfl (o_const _) ?_
    refine y_op (ck_at dt_Bu_buildMore 71 rfl) rfl (o_const _) ?_
    refine y_ldk (ok := q_isI) (n := 3) (ck_at dt_Bu_buildMore 72 rfl) rfl rfl (fun _ => rfl) rfl rfl ?_
    refine y_virtP (k' := n_Pr_add) (n := 1) (as := [iv 15, iv 0, iv 0, iv x3]) (r := []) (ck_at dt_Bu_buildMore 73 rfl) own_Bu_buildMore (cm_at 6 rfl) vk_Pr_add rfl nl_Pr_add rfl rfl rfl rfl (SH.o hS p5) (Y_Pr_add (by omega) hS p5 p6 p7 ⟨by decide, by decide⟩ ⟨rfl, rfl⟩) ?_
    have hS8 : SH (paC B ((B 101 1).toNat) 15 0 0 x3) := S_Pr_add hS p5 p6 p7 ⟨by decide, by decide⟩
    refine y_st1 (ok := q_isI) (n := 9) (L' := [some (.ref 101), some (iv x1), some (iv x2), some (iv x3), some (iv x4), some (iv x5), some (iv x6), some (iv x7), some (iv x8), some (iv (B ((B 101 1).toNat) 7))]) (ck_at dt_Bu_buildMore 74 rfl) rfl (fun _ => rfl) (fun _ _ => rfl) rfl nl_Bu_buildMore (by decide) rfl rfl ?_
    refine y_ldk (ok := q_isA) (n := 0) (ck_at dt_Bu_buildMore 75 rfl) rfl rfl (fun _ => rfl) rfl rfl ?_
    refine y_ldk (ok := q_isI) (n := 9) (ck_at dt_Bu_buildMore 76 rfl) rfl rfl (fun _ => rfl) rfl rfl ?_
    refine y_ldk (ok := q_isA) (n := 0) (ck_at dt_Bu_buildMore 77 rfl) rfl rfl (fun _ => rfl) rfl rfl ?_
    refine y_ldk (ok := q_isI) (n := 5) (ck_at dt_Bu_buildMore 78 rfl) rfl rfl (fun _ => rfl) rfl rfl ?_
    refine y_ldk (ok := q_isI) (n := 7) (ck_at dt_Bu_buildMore 79 rfl) rfl rfl (fun _ => rfl) rfl rfl ?_
    refine y_ldk (ok := q_isI) (n := 3) (ck_at dt_Bu_buildMore 80 rfl) rfl rfl (fun _ => rfl) rfl rfl ?_
    refine y_ldk (ok := q_isI) (n := 4) (ck_at dt_Bu_buildMore 81 rfl) rfl rfl (fun _ => rfl) rfl rfl ?_
    refine y_virt (k' := n_Bu_buildPart) (n := 1) (as := [iv x5, iv x7, iv x3, iv x4]) (r := [iv (B ((B 101 1).toNat) 7), .ref 101]) (ck_at dt_Bu_buildMore 82 rfl) own_Bu_buildMore (cm_at 8 rfl) vk_Bu_buildPart rfl nl_Bu_buildPart rfl rfl rfl rfl ⟨(SH.o hS8 ⟨by decide, by decide, by decide⟩), ?_⟩
    exact w.mono (Nat.le_refl _) (fun o B' ⟨v, ho, hS', w⟩ => Or.inl ⟨some (iv v), ho, y_wk (c_Bu_buildMore_151_ok (by omega) hS' w) ⟨rfl, ⟨rfl, ⟨rfl, ⟨rfl, ⟨rfl, ⟨rfl, ⟨rfl, ⟨rfl, ⟨rfl, trivial⟩⟩⟩⟩⟩⟩⟩⟩⟩⟩)
def c_Bu_buildMore_88 (h1 : qH) (d : Nat) (x2 : Int) (x6 : Int) (x7 : Int) (s1 : Int) (s2 : Int) (B : qB) (Q : qO → qB → Prop) : Prop := ob 5 (B 101 1).toNat ∧ 0 ≤ s1 ∧ s1 < 608 ∧ (x6 = 0 ∨ x6 = 1) ∧ Q (.inl (some (iv x7))) (bbC B s1 s2 x2 x6)
theorem c_Bu_buildMore_88_ok {h1 : qH} {d : Nat} {x2 : Int} {x6 : Int} {x7 : Int} {s1 : Int} {s2 : Int} {B : qB} {Q : qO → qB → Prop} (hd : 3 ≤ d) (hS : SH B) (w : c_Bu_buildMore_88 h1 d x2 x6 x7 s1 s2 B Q) : qY h1 (d + 1) n_Bu_buildMore 88 [none, none, some (iv x2), none, none, none, some (iv x6), some (iv x7), none, none] [iv s2, iv s1, .ref 101] B Q := by
  unfold c_Bu_buildMore_88 at w
  obtain ⟨p1, p2, p3, p4, w⟩ := w
  refine y_ldk (ok := q_isI) (n := 2) (ck_at dt_Bu_buildMore 49 rfl) rfl rfl (fun _ => rfl) rfl rfl ?_
  refine y_ldk (ok := q_isI) (n := 6) (ck_at dt_Bu_buildMore 50 rfl) rfl rfl (fun _ => rfl) rfl rfl ?_
  refine y_virtV (k' := n_Bu_branch) (n := 0) (as := [iv s1, iv s2, iv x2, iv x6]) (r := []) (ck_at dt_Bu_buildMore 51 rfl) own_Bu_buildMore (cm_at 18 rfl) vk_Bu_branch rfl nl_Bu_branch rfl rfl rfl rfl (SH.o hS ⟨by decide, by decide, by decide⟩) (Y_Bu_branch (by omega) hS p1 p2 p3 p4 ⟨rfl, rfl⟩) ?_
  have hS5 : SH (bbC B s1 s2 x2 x6) := S_Bu_branch hS p1 p2 p3 p4
  refine y_ldk (ok := q_isI) (n := 7) (ck_at dt_Bu_buildMore 52 rfl) rfl rfl (fun _ => rfl) rfl rfl ?_
  exact y_retI (ck_at dt_Bu_buildMore 53 rfl) rt_Bu_buildMore w
def c_Bu_buildMore_27 (h1 : qH) (d : Nat) (x1 : Int) (x2 : Int) (x3 : Int) (x4 : Int) (x5 : Int) (s0 : Int) (B : qB) (Q : qO → qB → Prop) : Prop := 0 ≤ x1 ∧ x1 < 408 ∧ R32 (B 96 x1) ∧ (¬ B 96 x1 = (-1) → qY h1 (d + 1) n_Bu_buildMore 110 [some (.ref 101), some (iv x1), some (iv x2), some (iv x3), some (iv x4), some (iv x5), some (iv s0), some (iv x2), some (iv (B 95 x1)), none] [] B Q) ∧ (B 96 x1 = (-1) → ob 5 ((B 101 1).toNat) ∧ 0 ≤ B ((B 101 1).toNat) 7 ∧ B ((B 101 1).toNat) 7 < 608 ∧ ob 5 (((paC B ((B 101 1).toNat) 15 0 0 x3) 101 1).toNat) ∧ 0 ≤ (paC B ((B 101 1).toNat) 15 0 0 x3) (((paC B ((B 101 1).toNat) 15 0 0 x3) 101 1).toNat) 7 ∧ (paC B ((B 101 1).toNat) 15 0 0 x3) (((paC B ((B 101 1).toNat) 15 0 0 x3) 101 1).toNat) 7 < 608 ∧ qY h1 d n_Bu_buildPart 0 [some (.ref 101), some (iv x5), some (iv ((paC B ((B 101 1).toNat) 15 0 0 x3) (((paC B ((B 101 1).toNat) 15 0 0 x3) 101 1).toNat) 7)), some (iv (x3 + 1)), some (iv x4), none] [] (paC (paC B ((B 101 1).toNat) 15 0 0 x3) (((paC B ((B 101 1).toNat) 15 0 0 x3) 101 1).toNat) 16 (x3 + 1) (B ((B 101 1).toNat) 7) x3) (fun o B' => ∃ v : Int, o = .inl (some (iv v)) ∧ SH B' ∧ c_Bu_buildMore_88 h1 d x2 s0 (B ((B 101 1).toNat) 7) (B ((B 101 1).toNat) 7) v B' Q))
theorem c_Bu_buildMore_27_ok {h1 : qH} {d : Nat} {x1 : Int} {x2 : Int} {x3 : Int} {x4 : Int} {x5 : Int} {s0 : Int} {B : qB} {Q : qO → qB → Prop} (hd : 3 ≤ d) (hS : SH B) (w : c_Bu_buildMore_27 h1 d x1 x2 x3 x4 x5 s0 B Q) : qY h1 (d + 1) n_Bu_buildMore 27 [some (.ref 101), some (iv x1), some (iv x2), some (iv x3), some (iv x4), some (iv x5), none, none, none, none] [iv s0] B Q := by
  unfold c_Bu_buildMore_27 at w
  obtain ⟨p1, p2, p3, w⟩ := w
  refine y_st1 (ok := q_isI) (n := 6) (L' := [some (.ref 101), some (iv x1), some (iv x2), some (iv x3), some (iv x4), some (iv x5), some (iv s0), none, none, none]) (ck_at dt_Bu_buildMore 14 rfl) rfl (fun _ => rfl) (fun _ _ => rfl) rfl nl_Bu_buildMore (by decide) rfl rfl ?_
  refine y_ldk (ok := q_isA) (n := 0) (ck_at dt_Bu_buildMore 15 rfl) rfl rfl (fun _ => rfl) rfl rfl ?_
  refine y_getF (r := 90) (K := 0) (j := 0) (a := 101) (ck_at dt_Bu_buildMore 16 rfl) own_Bu_buildMore (cf_at 0 rfl) rfl rfl ⟨(SH.o hS ⟨by decide, by decide, by decide⟩), ?_⟩
  refine y_ldk (ok := q_isI) (n := 1) (ck_at dt_Bu_buildMore 17 rfl) rfl rfl (fun _ => rfl) rfl rfl ?_
  refine y_virtP (k' := n_Tr_mostOf) (n := 0) (as := [iv x1]) (r := []) (ck_at dt_Bu_buildMore 18 rfl) own_Bu_buildMore (cm_at 17 rfl) vk_Tr_mostOf rfl nl_Tr_mostOf rfl rfl rfl rfl (SH.o hS ⟨by decide, by decide, by decide⟩) (Y_Tr_mostOf (by omega) hS p1 p2 ⟨rfl, rfl⟩) ?_
  refine y_op (ck_at dt_Bu_buildMore 19 rfl) rfl (o_const _) ?_
  refine y_icmp (t := 97) (ck_at dt_Bu_buildMore 20 rfl) rfl p3 ⟨by decide, by decide⟩ ?_ ?_
  · intro q; have w := w.1 q
    refine y_ldk (ok := q_isI) (n := 2) (ck_at dt_Bu_buildMore 54 rfl) rfl rfl (fun _ => rfl) rfl rfl ?_
    refine y_st1 (ok := q_isI) (n := 7) (L' := [some (.ref 101), some (iv x1), some (iv x2), some (iv x3), some (iv x4), some (iv x5), some (iv s0), some (iv x2), none, none]) (ck_at dt_Bu_buildMore 55 rfl) rfl (fun _ => rfl) (fun _ _ => rfl) rfl nl_Bu_buildMore (by decide) rfl rfl ?_
    refine y_ldk (ok := q_isA) (n := 0) (ck_at dt_Bu_buildMore 56 rfl) rfl rfl (fun _ => rfl) rfl rfl ?_
    refine y_getF (r := 90) (K := 0) (j := 0) (a := 101) (ck_at dt_Bu_buildMore 57 rfl) own_Bu_buildMore (cf_at 0 rfl) rfl rfl ⟨(SH.o hS ⟨by decide, by decide, by decide⟩), ?_⟩
    refine y_ldk (ok := q_isI) (n := 1) (ck_at dt_Bu_buildMore 58 rfl) rfl rfl (fun _ => rfl) rfl rfl ?_
    refine y_virtP (k' := n_Tr_leastOf) (n := 0) (as := [iv x1]) (r := []) (ck_at dt_Bu_buildMore 59 rfl) own_Bu_buildMore (cm_at 16 rfl) vk_Tr_leastOf rfl nl_Tr_leastOf rfl rfl rfl rfl (SH.o hS ⟨by decide, by decide, by decide⟩) (Y_Tr_leastOf (by omega) hS p1 p2 ⟨rfl, rfl⟩) ?_
    refine y_st1 (ok := q_isI) (n := 8) (L' := [some (.ref 101), some (iv x1), some (iv x2), some (iv x3), some (iv x4), some (iv x5), some (iv s0), some (iv x2), some (iv (B 95 x1)), none]) (ck_at dt_Bu_buildMore 60 rfl) rfl (fun _ => rfl) (fun _ _ => rfl) rfl nl_Bu_buildMore (by decide) rfl rfl ?_
    exact y_wk w ⟨rfl, ⟨rfl, ⟨rfl, ⟨rfl, ⟨rfl, ⟨rfl, ⟨rfl, ⟨rfl, ⟨rfl, trivial⟩⟩⟩⟩⟩⟩⟩⟩⟩
  · intro q; have w := w.2 q
    obtain ⟨p4, p5, p6, p8, p9, p10, w⟩ := w
    refine y_ldk (ok := q_isA) (n := 0) (ck_at dt_Bu_buildMore 21 rfl) rfl rfl (fun _ => rfl) rfl rfl ?_
    refine y_getD (K := 0) (j := 1) (a := 101) (ck_at dt_Bu_buildMore 22 rfl) own_Bu_buildMore (cf_at 1 rfl) rfl rfl rfl ⟨(SH.o hS ⟨by decide, by decide, by decide⟩), ?_⟩
    refine y_op (ck_at dt_Bu_buildMore 23 rfl) rfl (o_bipush _ (by decide)) ?_
    refine y_op (ck_at dt_Bu_buildMore 24 rfl) rfl (o_const _) ?_
    refine y_op (ck_at dt_Bu_buildMore 25 rfl) rfl (o_const _) ?_
    refine y_ldk (ok := q_isI) (n := 3) (ck_at dt_Bu_buildMore 26 rfl) rfl rfl (fun _ => rfl) rfl rfl ?_
    refine y_virtP (k' := n_Pr_add) (n := 1) (as := [iv 15, iv 0, iv 0, iv x3]) (r := []) (ck_at dt_Bu_buildMore 27 rfl) own_Bu_buildMore (cm_at 6 rfl) vk_Pr_add rfl nl_Pr_add rfl rfl rfl rfl (SH.o hS p4) (Y_Pr_add (by omega) hS p4 p5 p6 ⟨by decide, by decide⟩ ⟨rfl, rfl⟩) ?_
    have hS7 : SH (paC B ((B 101 1).toNat) 15 0 0 x3) := S_Pr_add hS p4 p5 p6 ⟨by decide, by decide⟩
    refine y_st1 (ok := q_isI) (n := 7) (L' := [some (.ref 101), some (iv x1), some (iv x2), some (iv x3), some (iv x4), some (iv x5), some (iv s0), some (iv (B ((B 101 1).toNat) 7)), none, none]) (ck_at dt_Bu_buildMore 28 rfl) rfl (fun _ => rfl) (fun _ _ => rfl) rfl nl_Bu_buildMore (by decide) rfl rfl ?_
    refine y_ldk (ok := q_isA) (n := 0) (ck_at dt_Bu_buildMore 29 rfl) rfl rfl (fun _ => rfl) rfl rfl ?_
    refine y_getD (K := 0) (j := 1) (a := 101) (ck_at dt_Bu_buildMore 30 rfl) own_Bu_buildMore (cf_at 1 rfl) rfl rfl rfl ⟨(SH.o hS7 ⟨by decide, by decide, by decide⟩), ?_⟩
    refine y_op (ck_at dt_Bu_buildMore 31 rfl) rfl (o_bipush _ (by decide)) ?_
    refine y_ldk (ok := q_isI) (n := 3) (ck_at dt_Bu_buildMore 32 rfl) rfl rfl (fun _ => rfl) rfl rfl ?_
    refine y_op (ck_at dt_Bu_buildMore 33 rfl) rfl (o_const _) ?_
    refine y_op (ck_at dt_Bu_buildMore 34 rfl) rfl o_iadd ?_
    refine y_ldk (ok := q_isI) (n := 7) (ck_at dt_Bu_buildMore 35 rfl) rfl rfl (fun _ => rfl) rfl rfl ?_
    refine y_ldk (ok := q_isI) (n := 3) (ck_at dt_Bu_buildMore 36 rfl) rfl rfl (fun _ => rfl) rfl rfl ?_
    refine y_virtP (k' := n_Pr_add) (n := 1) (as := [iv 16, iv (x3 + 1), iv (B ((B 101 1).toNat) 7), iv x3]) (r := []) (ck_at dt_Bu_buildMore 37 rfl) own_Bu_buildMore (cm_at 6 rfl) vk_Pr_add rfl nl_Pr_add rfl rfl rfl rfl (SH.o hS7 p8) (Y_Pr_add (by omega) hS7 p8 p9 p10 ⟨by decide, by decide⟩ ⟨rfl, rfl⟩) ?_
    have hS11 : SH (paC (paC B ((B 101 1).toNat) 15 0 0 x3) (((paC B ((B 101 1).toNat) 15 0 0 x3) 101 1).toNat) 16 (x3 + 1) (B ((B 101 1).toNat) 7) x3) := S_Pr_add hS7 p8 p9 p10 ⟨by decide, by decide⟩
    refine y_st1 (ok := q_isI) (n := 8) (L' := [some (.ref 101), some (iv x1), some (iv x2), some (iv x3), some (iv x4), some (iv x5), some (iv s0), some (iv (B ((B 101 1).toNat) 7)), some (iv ((paC B ((B 101 1).toNat) 15 0 0 x3) (((paC B ((B 101 1).toNat) 15 0 0 x3) 101 1).toNat) 7)), none]) (ck_at dt_Bu_buildMore 38 rfl) rfl (fun _ => rfl) (fun _ _ => rfl) rfl nl_Bu_buildMore (by decide) rfl rfl ?_
    refine y_ldk (ok := q_isA) (n := 0) (ck_at dt_Bu_buildMore 39 rfl) rfl rfl (fun _ => rfl) rfl rfl ?_
    refine y_ldk (ok := q_isI) (n := 7) (ck_at dt_Bu_buildMore 40 rfl) rfl rfl (fun _ => rfl) rfl rfl ?_
    refine y_ldk (ok := q_isA) (n := 0) (ck_at dt_Bu_buildMore 41 rfl) rfl rfl (fun _ => rfl) rfl rfl ?_
    refine y_ldk (ok := q_isI) (n := 5) (ck_at dt_Bu_buildMore 42 rfl) rfl rfl (fun _ => rfl) rfl rfl ?_
    refine y_ldk (ok := q_isI) (n := 8) (ck_at dt_Bu_buildMore 43 rfl) rfl rfl (fun _ => rfl) rfl rfl ?_
    refine y_ldk (ok := q_isI) (n := 3) (ck_at dt_Bu_buildMore 44 rfl) rfl rfl (fun _ => rfl) rfl rfl ?_
    refine y_op (ck_at dt_Bu_buildMore 45 rfl) rfl (o_const _) ?_
    refine y_op (ck_at dt_Bu_buildMore 46 rfl) rfl o_iadd ?_
    refine y_ldk (ok := q_isI) (n := 4) (ck_at dt_Bu_buildMore 47 rfl) rfl rfl (fun _ => rfl) rfl rfl ?_
    refine y_virt (k' := n_Bu_buildPart) (n := 1) (as := [iv x5, iv ((paC B ((B 101 1).toNat) 15 0 0 x3) (((paC B ((B 101 1).toNat) 15 0 0 x3) 101 1).toNat) 7), iv (x3 + 1), iv x4]) (r := [iv (B ((B 101 1).toNat) 7), .ref 101]) (ck_at dt_Bu_buildMore 48 rfl) own_Bu_buildMore (cm_at 8 rfl) vk_Bu_buildPart rfl nl_Bu_buildPart rfl rfl rfl rfl ⟨(SH.o hS11 ⟨by decide, by decide, by decide⟩), ?_⟩
    exact w.mono (Nat.le_refl _) (fun o B' ⟨v, ho, hS', w⟩ => Or.inl ⟨some (iv v), ho, y_wk (c_Bu_buildMore_88_ok (by omega) hS' w) ⟨rfl, ⟨rfl, ⟨rfl, trivial⟩⟩⟩⟩)
def c_Bu_buildMore_0 (h1 : qH) (d : Nat) (x1 : Int) (x2 : Int) (x3 : Int) (x4 : Int) (B : qB) (Q : qO → qB → Prop) : Prop := 0 ≤ x1 ∧ x1 < 408 ∧ R32 (B 92 x1) ∧ (¬ B 92 x1 = 1 → c_Bu_buildMore_27 h1 d x1 x2 x3 x4 (B 93 x1) 0 B Q) ∧ (B 92 x1 = 1 → c_Bu_buildMore_27 h1 d x1 x2 x3 x4 (B 93 x1) 1 B Q)
theorem c_Bu_buildMore_0_ok {h1 : qH} {d : Nat} {x1 : Int} {x2 : Int} {x3 : Int} {x4 : Int} {B : qB} {Q : qO → qB → Prop} (hd : 3 ≤ d) (hS : SH B) (w : c_Bu_buildMore_0 h1 d x1 x2 x3 x4 B Q) : qY h1 (d + 1) n_Bu_buildMore 0 [some (.ref 101), some (iv x1), some (iv x2), some (iv x3), some (iv x4), none, none, none, none, none] [] B Q := by
  unfold c_Bu_buildMore_0 at w
  obtain ⟨p1, p2, p3, w⟩ := w
  refine y_ldk (ok := q_isA) (n := 0) (ck_at dt_Bu_buildMore 0 rfl) rfl rfl (fun _ => rfl) rfl rfl ?_
  refine y_getF (r := 90) (K := 0) (j := 0) (a := 101) (ck_at dt_Bu_buildMore 1 rfl) own_Bu_buildMore (cf_at 0 rfl) rfl rfl ⟨(SH.o hS ⟨by decide, by decide, by decide⟩), ?_⟩
  refine y_ldk (ok := q_isI) (n := 1) (ck_at dt_Bu_buildMore 2 rfl) rfl rfl (fun _ => rfl) rfl rfl ?_
  refine y_virtP (k' := n_Tr_innerOf) (n := 0) (as := [iv x1]) (r := []) (ck_at dt_Bu_buildMore 3 rfl) own_Bu_buildMore (cm_at 3 rfl) vk_Tr_innerOf rfl nl_Tr_innerOf rfl rfl rfl rfl (SH.o hS ⟨by decide, by decide, by decide⟩) (Y_Tr_innerOf (by omega) hS p1 p2 ⟨rfl, rfl⟩) ?_
  refine y_st1 (ok := q_isI) (n := 5) (L' := [some (.ref 101), some (iv x1), some (iv x2), some (iv x3), some (iv x4), some (iv (B 93 x1)), none, none, none, none]) (ck_at dt_Bu_buildMore 4 rfl) rfl (fun _ => rfl) (fun _ _ => rfl) rfl nl_Bu_buildMore (by decide) rfl rfl ?_
  refine y_ldk (ok := q_isA) (n := 0) (ck_at dt_Bu_buildMore 5 rfl) rfl rfl (fun _ => rfl) rfl rfl ?_
  refine y_getF (r := 90) (K := 0) (j := 0) (a := 101) (ck_at dt_Bu_buildMore 6 rfl) own_Bu_buildMore (cf_at 0 rfl) rfl rfl ⟨(SH.o hS ⟨by decide, by decide, by decide⟩), ?_⟩
  refine y_ldk (ok := q_isI) (n := 1) (ck_at dt_Bu_buildMore 7 rfl) rfl rfl (fun _ => rfl) rfl rfl ?_
  refine y_virtP (k' := n_Tr_valueOf) (n := 0) (as := [iv x1]) (r := []) (ck_at dt_Bu_buildMore 8 rfl) own_Bu_buildMore (cm_at 13 rfl) vk_Tr_valueOf rfl nl_Tr_valueOf rfl rfl rfl rfl (SH.o hS ⟨by decide, by decide, by decide⟩) (Y_Tr_valueOf (by omega) hS p1 p2 ⟨rfl, rfl⟩) ?_
  refine y_op (ck_at dt_Bu_buildMore 9 rfl) rfl (o_const _) ?_
  refine y_icmp (t := 26) (ck_at dt_Bu_buildMore 10 rfl) rfl p3 ⟨by decide, by decide⟩ ?_ ?_
  · intro q; have w := w.1 q
    refine y_op (ck_at dt_Bu_buildMore 13 rfl) rfl (o_const _) ?_
    exact y_wk (c_Bu_buildMore_27_ok (by omega) hS w) ⟨rfl, ⟨rfl, ⟨rfl, ⟨rfl, ⟨rfl, ⟨rfl, trivial⟩⟩⟩⟩⟩⟩
  · intro q; have w := w.2 q
    refine y_op (ck_at dt_Bu_buildMore 11 rfl) rfl (o_const _) ?_
    refine y_goto (t := 27) (ck_at dt_Bu_buildMore 12 rfl) rfl ?_
    exact y_wk (c_Bu_buildMore_27_ok (by omega) hS w) ⟨rfl, ⟨rfl, ⟨rfl, ⟨rfl, ⟨rfl, ⟨rfl, trivial⟩⟩⟩⟩⟩⟩
/-! PatternTrier$Program.finish(ILPatternTrier$Tree;II)V -/
def t_Pr_finish : List (Nat × Instr × Nat) := [(0, .aload_n 0, 1), (1, .iload_n 1, 1), (2, .putfield 61, 3), (5, .aload_n 0, 1), (6, .getfield 33, 3), (9, .aload_n 2, 1), (10, .invokevirtual 64, 3), (13, .invokevirtual 69, 3), (16, .aload_n 0, 1), (17, .aload_n 2, 1), (18, .iload_n 3, 1), (19, .invokevirtual 73, 3), (22, .putfield 37, 3), (25, .aload_n 0, 1), (26, .iload 4, 2), (28, .putfield 41, 3), (31, .aload_n 0, 1), (32, .aload_n 2, 1), (33, .iload_n 3, 1), (34, .invokevirtual 77, 3), (37, .putfield 44, 3), (40, .return_, 1)]
set_option maxRecDepth 100000 in
theorem dt_Pr_finish : q_ck n_Pr_finish t_Pr_finish = true := by decide +kernel
def c_Pr_finish_0 (h1 : qH) (d : Nat) (a0 : Nat) (x1 : Int) (x3 : Int) (x4 : Int) (B : qB) (Q : qO → qB → Prop) : Prop := 0 ≤ (u2 B a0 9 x1) 98 1 ∧ (u2 B a0 9 x1) 98 1 ≤ 200 ∧ 0 ≤ x3 ∧ x3 < 408 ∧ osO (u2 (u2 (scC (u2 B a0 9 x1) (a0 + 7) 98) a0 10 ((scC (u2 B a0 9 x1) (a0 + 7) 98) 97 x3)) a0 11 x4) x3 ∧ Q (.inl none) (u2 (u2 (u2 (scC (u2 B a0 9 x1) (a0 + 7) 98) a0 10 ((scC (u2 B a0 9 x1) (a0 + 7) 98) 97 x3)) a0 11 x4) a0 12 (osV (u2 (u2 (scC (u2 B a0 9 x1) (a0 + 7) 98) a0 10 ((scC (u2 B a0 9 x1) (a0 + 7) 98) 97 x3)) a0 11 x4) x3))
theorem c_Pr_finish_0_ok {h1 : qH} {d : Nat} {a0 : Nat} {x1 : Int} {x3 : Int} {x4 : Int} {B : qB} {Q : qO → qB → Prop} (hd : 3 ≤ d) (hS : SH B) (ha0 : ob 5 a0) (w : c_Pr_finish_0 h1 d a0 x1 x3 x4 B Q) : qY h1 (d + 1) n_Pr_finish 0 [some (.ref a0), some (iv x1), some (.ref 90), some (iv x3), some (iv x4)] [] B Q := by
  unfold c_Pr_finish_0 at w
  obtain ⟨p2, p3, p5, p6, p9, w⟩ := w
  refine y_ldk (ok := q_isA) (n := 0) (ck_at dt_Pr_finish 0 rfl) rfl rfl (fun _ => rfl) rfl rfl ?_
  refine y_ldk (ok := q_isI) (n := 1) (ck_at dt_Pr_finish 1 rfl) rfl rfl (fun _ => rfl) rfl rfl ?_
  refine y_putI (K := 5) (j := 9) (a := a0) (ck_at dt_Pr_finish 2 rfl) own_Pr_finish (cf_at 21 rfl) rfl rfl rfl rfl rfl ⟨⟨SH.o hS ha0, ob.lt ha0⟩, ?_⟩
  have hS1 := SH_u2 (b := a0) (x := 9) (z := x1) hS (by decide)
  refine y_ldk (ok := q_isA) (n := 0) (ck_at dt_Pr_finish 3 rfl) rfl rfl (fun _ => rfl) rfl rfl ?_
  refine y_getF (r := a0 + 7) (K := 5) (j := 6) (a := a0) (ck_at dt_Pr_finish 4 rfl) own_Pr_finish (cf_at 15 rfl) rfl rfl ⟨(SH.o hS1 ha0), ?_⟩
  refine y_ldk (ok := q_isA) (n := 2) (ck_at dt_Pr_finish 5 rfl) rfl rfl (fun _ => rfl) rfl rfl ?_
  refine y_virtP (k' := n_Tr_sets) (n := 0) (as := []) (r := [.ref (a0 + 7)]) (ck_at dt_Pr_finish 6 rfl) own_Pr_finish (cm_at 34 rfl) vk_Tr_sets rfl nl_Tr_sets rfl rfl rfl rfl (SH.o hS1 ⟨by decide, by decide, by decide⟩) (Y_Tr_sets (by omega) hS1 ⟨rfl, rfl⟩) ?_
  refine y_virtV (k' := n_Se_copy) (n := 1) (as := [.ref 98]) (r := []) (ck_at dt_Pr_finish 7 rfl) own_Pr_finish (cm_at 35 rfl) vk_Se_copy rfl nl_Se_copy rfl rfl rfl rfl (SH.o hS1 (ob57 ha0)) (Y_Se_copy (by omega) hS1 (ob57 ha0) ⟨by decide, by decide, by decide⟩ p2 p3 ⟨rfl, rfl⟩) ?_
  have hS4 : SH (scC (u2 B a0 9 x1) (a0 + 7) 98) := S_Se_copy hS1 (ob57 ha0) ⟨by decide, by decide, by decide⟩ p2 p3
  refine y_ldk (ok := q_isA) (n := 0) (ck_at dt_Pr_finish 8 rfl) rfl rfl (fun _ => rfl) rfl rfl ?_
  refine y_ldk (ok := q_isA) (n := 2) (ck_at dt_Pr_finish 9 rfl) rfl rfl (fun _ => rfl) rfl rfl ?_
  refine y_ldk (ok := q_isI) (n := 3) (ck_at dt_Pr_finish 10 rfl) rfl rfl (fun _ => rfl) rfl rfl ?_
  refine y_virtP (k' := n_Tr_weightOf) (n := 0) (as := [iv x3]) (r := [.ref a0]) (ck_at dt_Pr_finish 11 rfl) own_Pr_finish (cm_at 36 rfl) vk_Tr_weightOf rfl nl_Tr_weightOf rfl rfl rfl rfl (SH.o hS4 ⟨by decide, by decide, by decide⟩) (Y_Tr_weightOf (by omega) hS4 p5 p6 ⟨rfl, rfl⟩) ?_
  refine y_putI (K := 5) (j := 10) (a := a0) (ck_at dt_Pr_finish 12 rfl) own_Pr_finish (cf_at 16 rfl) rfl rfl rfl rfl rfl ⟨⟨SH.o hS4 ha0, ob.lt ha0⟩, ?_⟩
  have hS7 := SH_u2 (b := a0) (x := 10) (z := (scC (u2 B a0 9 x1) (a0 + 7) 98) 97 x3) hS4 (by decide)
  refine y_ldk (ok := q_isA) (n := 0) (ck_at dt_Pr_finish 13 rfl) rfl rfl (fun _ => rfl) rfl rfl ?_
  refine y_ldk (ok := q_isI) (n := 4) (ck_at dt_Pr_finish 14 rfl) rfl rfl (fun _ => rfl) rfl rfl ?_
  refine y_putI (K := 5) (j := 11) (a := a0) (ck_at dt_Pr_finish 15 rfl) own_Pr_finish (cf_at 17 rfl) rfl rfl rfl rfl rfl ⟨⟨SH.o hS7 ha0, ob.lt ha0⟩, ?_⟩
  have hS8 := SH_u2 (b := a0) (x := 11) (z := x4) hS7 (by decide)
  refine y_ldk (ok := q_isA) (n := 0) (ck_at dt_Pr_finish 16 rfl) rfl rfl (fun _ => rfl) rfl rfl ?_
  refine y_ldk (ok := q_isA) (n := 2) (ck_at dt_Pr_finish 17 rfl) rfl rfl (fun _ => rfl) rfl rfl ?_
  refine y_ldk (ok := q_isI) (n := 3) (ck_at dt_Pr_finish 18 rfl) rfl rfl (fun _ => rfl) rfl rfl ?_
  refine y_virtP (k' := n_Tr_onlySet) (n := 3) (as := [iv x3]) (r := [.ref a0]) (ck_at dt_Pr_finish 19 rfl) own_Pr_finish (cm_at 37 rfl) vk_Tr_onlySet rfl nl_Tr_onlySet rfl rfl rfl rfl (SH.o hS8 ⟨by decide, by decide, by decide⟩) (Y_Tr_onlySet (by omega) hS8 p9 ⟨rfl, rfl⟩) ?_
  refine y_putI (K := 5) (j := 12) (a := a0) (ck_at dt_Pr_finish 20 rfl) own_Pr_finish (cf_at 18 rfl) rfl rfl rfl rfl rfl ⟨⟨SH.o hS8 ha0, ob.lt ha0⟩, ?_⟩
  have hS10 := SH_u2 (b := a0) (x := 12) (z := osV (u2 (u2 (scC (u2 B a0 9 x1) (a0 + 7) 98) a0 10 ((scC (u2 B a0 9 x1) (a0 + 7) 98) 97 x3)) a0 11 x4) x3) hS8 (by decide)
  exact y_ret0 (ck_at dt_Pr_finish 21 rfl) rt_Pr_finish w
/-! PatternTrier$Builder.build(LPatternTrier$Program;II)V -/
def t_Bu_build : List (Nat × Instr × Nat) := [(0, .aload_n 0, 1), (1, .aload_n 1, 1), (2, .putfield 15, 3), (5, .aload_n 0, 1), (6, .getfield 15, 3), (9, .invokevirtual 19, 3), (12, .aload_n 0, 1), (13, .iload_n 2, 1), (14, .iconst 0, 1), (15, .iconst 0, 1), (16, .iconst 0, 1), (17, .invokevirtual 24, 3), (20, .istore 4, 2), (22, .aload_n 0, 1), (23, .getfield 15, 3), (26, .iload 4, 2), (28, .aload_n 0, 1), (29, .getfield 9, 3), (32, .iload_n 2, 1), (33, .iload_n 3, 1), (34, .invokevirtual 28, 3), (37, .return_, 1)]
set_option maxRecDepth 100000 in
theorem dt_Bu_build : q_ck n_Bu_build t_Bu_build = true := by decide +kernel
def c_Bu_build_37 (h1 : qH) (d : Nat) (B : qB) (Q : qO → qB → Prop) : Prop := Q (.inl none) B
theorem c_Bu_build_37_ok {h1 : qH} {d : Nat} {B : qB} {Q : qO → qB → Prop} (hd : 3 ≤ d) (hS : SH B) (w : c_Bu_build_37 h1 d B Q) : qY h1 (d + 1) n_Bu_build 37 [none, none, none, none, none] [] B Q := by
  unfold c_Bu_build_37 at w
  exact y_ret0 (ck_at dt_Bu_build 21 rfl) rt_Bu_build w
def c_Bu_build_20 (h1 : qH) (d : Nat) (x2 : Int) (x3 : Int) (s0 : Int) (B : qB) (Q : qO → qB → Prop) : Prop := ob 5 ((B 101 1).toNat) ∧ qY h1 d n_Pr_finish 0 [some (.ref ((B 101 1).toNat)), some (iv s0), some (.ref 90), some (iv x2), some (iv x3)] [] B (fun o B' => o = .inl none ∧ SH B' ∧ c_Bu_build_37 h1 d B' Q)
theorem c_Bu_build_20_ok {h1 : qH} {d : Nat} {x2 : Int} {x3 : Int} {s0 : Int} {B : qB} {Q : qO → qB → Prop} (hd : 3 ≤ d) (hS : SH B) (w : c_Bu_build_20 h1 d x2 x3 s0 B Q) : qY h1 (d + 1) n_Bu_build 20 [some (.ref 101), none, some (iv x2), some (iv x3), none] [iv s0] B Q := by
  unfold c_Bu_build_20 at w
  obtain ⟨p1, w⟩ := w
  refine y_st1 (ok := q_isI) (n := 4) (L' := [some (.ref 101), none, some (iv x2), some (iv x3), some (iv s0)]) (ck_at dt_Bu_build 12 rfl) rfl (fun _ => rfl) (fun _ _ => rfl) rfl nl_Bu_build (by decide) rfl rfl ?_
  refine y_ldk (ok := q_isA) (n := 0) (ck_at dt_Bu_build 13 rfl) rfl rfl (fun _ => rfl) rfl rfl ?_
  refine y_getD (K := 0) (j := 1) (a := 101) (ck_at dt_Bu_build 14 rfl) own_Bu_build (cf_at 1 rfl) rfl rfl rfl ⟨(SH.o hS ⟨by decide, by decide, by decide⟩), ?_⟩
  refine y_ldk (ok := q_isI) (n := 4) (ck_at dt_Bu_build 15 rfl) rfl rfl (fun _ => rfl) rfl rfl ?_
  refine y_ldk (ok := q_isA) (n := 0) (ck_at dt_Bu_build 16 rfl) rfl rfl (fun _ => rfl) rfl rfl ?_
  refine y_getF (r := 90) (K := 0) (j := 0) (a := 101) (ck_at dt_Bu_build 17 rfl) own_Bu_build (cf_at 0 rfl) rfl rfl ⟨(SH.o hS ⟨by decide, by decide, by decide⟩), ?_⟩
  refine y_ldk (ok := q_isI) (n := 2) (ck_at dt_Bu_build 18 rfl) rfl rfl (fun _ => rfl) rfl rfl ?_
  refine y_ldk (ok := q_isI) (n := 3) (ck_at dt_Bu_build 19 rfl) rfl rfl (fun _ => rfl) rfl rfl ?_
  refine y_virt (k' := n_Pr_finish) (n := 0) (as := [iv s0, .ref 90, iv x2, iv x3]) (r := []) (ck_at dt_Bu_build 20 rfl) own_Bu_build (cm_at 2 rfl) vk_Pr_finish rfl nl_Pr_finish rfl rfl rfl rfl ⟨(SH.o hS p1), ?_⟩
  exact w.mono (Nat.le_refl _) (fun o B' ⟨ho, hS', w⟩ => Or.inl ⟨none, ho, y_wk (c_Bu_build_37_ok (by omega) hS' w) trivial⟩)
def c_Bu_build_0 (h1 : qH) (d : Nat) (a1 : Nat) (x2 : Int) (x3 : Int) (B : qB) (Q : qO → qB → Prop) : Prop := ob 5 ((((a1 : Nat) : Int)).toNat) ∧ qY h1 d n_Bu_buildWays 0 [some (.ref 101), some (iv x2), some (iv 0), some (iv 0), some (iv 0), none, none, none, none] [] (pcC (u2 B 101 1 ((a1 : Nat) : Int)) ((((a1 : Nat) : Int)).toNat)) (fun o B' => ∃ v : Int, o = .inl (some (iv v)) ∧ SH B' ∧ c_Bu_build_20 h1 d x2 x3 v B' Q)
theorem c_Bu_build_0_ok {h1 : qH} {d : Nat} {a1 : Nat} {x2 : Int} {x3 : Int} {B : qB} {Q : qO → qB → Prop} (hd : 3 ≤ d) (hS : SH B) (ha1 : ob 5 a1) (w : c_Bu_build_0 h1 d a1 x2 x3 B Q) : qY h1 (d + 1) n_Bu_build 0 [some (.ref 101), some (.ref a1), some (iv x2), some (iv x3), none] [] B Q := by
  unfold c_Bu_build_0 at w
  obtain ⟨p2, w⟩ := w
  refine y_ldk (ok := q_isA) (n := 0) (ck_at dt_Bu_build 0 rfl) rfl rfl (fun _ => rfl) rfl rfl ?_
  refine y_ldk (ok := q_isA) (n := 1) (ck_at dt_Bu_build 1 rfl) rfl rfl (fun _ => rfl) rfl rfl ?_
  refine y_putR (K := 0) (j := 1) (a := 101) (ck_at dt_Bu_build 2 rfl) own_Bu_build (cf_at 1 rfl) rfl rfl rfl rfl rfl rfl ⟨⟨SH.o hS ⟨by decide, by decide, by decide⟩, by decide⟩, ?_⟩
  have hS1 := SH_u2 (b := 101) (x := 1) (z := ((a1 : Nat) : Int)) hS (by decide)
  refine y_ldk (ok := q_isA) (n := 0) (ck_at dt_Bu_build 3 rfl) rfl rfl (fun _ => rfl) rfl rfl ?_
  refine y_getD (K := 0) (j := 1) (a := 101) (ck_at dt_Bu_build 4 rfl) own_Bu_build (cf_at 1 rfl) rfl rfl rfl ⟨(SH.o hS1 ⟨by decide, by decide, by decide⟩), ?_⟩
  refine y_virtV (k' := n_Pr_clear) (n := 0) (as := []) (r := []) (ck_at dt_Bu_build 5 rfl) own_Bu_build (cm_at 0 rfl) vk_Pr_clear rfl nl_Pr_clear rfl rfl rfl rfl (SH.o hS1 p2) (Y_Pr_clear (by omega) hS1 p2 ⟨rfl, rfl⟩) ?_
  have hS3 : SH (pcC (u2 B 101 1 ((a1 : Nat) : Int)) ((((a1 : Nat) : Int)).toNat)) := S_Pr_clear hS1
  refine y_ldk (ok := q_isA) (n := 0) (ck_at dt_Bu_build 6 rfl) rfl rfl (fun _ => rfl) rfl rfl ?_
  refine y_ldk (ok := q_isI) (n := 2) (ck_at dt_Bu_build 7 rfl) rfl rfl (fun _ => rfl) rfl rfl ?_
  refine y_op (ck_at dt_Bu_build 8 rfl) rfl (o_const _) ?_
  refine y_op (ck_at dt_Bu_build 9 rfl) rfl (o_const _) ?_
  refine y_op (ck_at dt_Bu_build 10 rfl) rfl (o_const _) ?_
  refine y_virt (k' := n_Bu_buildWays) (n := 4) (as := [iv x2, iv 0, iv 0, iv 0]) (r := []) (ck_at dt_Bu_build 11 rfl) own_Bu_build (cm_at 1 rfl) vk_Bu_buildWays rfl nl_Bu_buildWays rfl rfl rfl rfl ⟨(SH.o hS3 ⟨by decide, by decide, by decide⟩), ?_⟩
  exact w.mono (Nat.le_refl _) (fun o B' ⟨v, ho, hS', w⟩ => Or.inl ⟨some (iv v), ho, y_wk (c_Bu_build_20_ok (by omega) hS' w) ⟨rfl, ⟨rfl, ⟨rfl, trivial⟩⟩⟩⟩)
