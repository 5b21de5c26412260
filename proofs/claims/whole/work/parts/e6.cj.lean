/-! PatternTrier.feed(IIIII)I -/
def t_P_feed : List (Nat × Instr × Nat) := [(0, .aload_n 0, 1), (1, .getfield 35, 3), (4, .invokevirtual 93, 3), (7, .bipush 20, 2), (9, .if_icmp .ge 13, 3), (12, .new 97, 3), (15, .dup, 1), (16, .ldc 99, 2), (18, .invokespecial 101, 3), (21, .athrow, 1), (22, .aload_n 0, 1), (23, .iload_n 1, 1), (24, .invokevirtual 104, 3), (27, .aload_n 0, 1), (28, .iload_n 2, 1), (29, .invokevirtual 104, 3), (32, .aload_n 0, 1), (33, .iload_n 3, 1), (34, .invokevirtual 104, 3), (37, .aload_n 0, 1), (38, .iload 4, 2), (40, .invokevirtual 104, 3), (43, .aload_n 0, 1), (44, .iload 5, 2), (46, .invokevirtual 104, 3), (49, .aload_n 0, 1), (50, .getfield 35, 3), (53, .invokevirtual 107, 3), (56, .ireturn, 1)]
set_option maxRecDepth 100000 in
theorem dt_P_feed : q_ck n_P_feed t_P_feed = true := by decide +kernel
set_option maxRecDepth 100000 in
theorem th_P_feed_12 (st : List Value) : q_throw (q_ms n_P_feed).2.1 (q_ms n_P_feed).2.2.1 12 (.new 97) [] = some "java/lang/IndexOutOfBoundsException" := by decide +kernel
def c_P_feed_49 (h1 : qH) (d : Nat) (B : qB) (Q : qO → qB → Prop) : Prop := ob 1 ((B 0 8).toNat) ∧ Q (.inl (some (iv (B ((B 0 8).toNat) 1)))) B
theorem c_P_feed_49_ok {h1 : qH} {d : Nat} {B : qB} {Q : qO → qB → Prop} (hd : 1 ≤ d) (hS : SH B) (w : c_P_feed_49 h1 d B Q) : qY h1 (d + 1) n_P_feed 49 [some (.ref 0), none, none, none, none, none] [] B Q := by
  unfold c_P_feed_49 at w
  obtain ⟨p1, w⟩ := w
  refine y_ldk (ok := q_isA) (n := 0) (ck_at dt_P_feed 25 rfl) rfl rfl (fun _ => rfl) rfl rfl ?_
  refine y_getD (K := 10) (j := 8) (a := 0) (ck_at dt_P_feed 26 rfl) own_P_feed (cf_at 53 rfl) rfl rfl rfl ⟨(SH.o hS ⟨by decide, by decide, by decide⟩), ?_⟩
  refine y_virtP (k' := n_By_size) (n := 0) (as := []) (r := []) (ck_at dt_P_feed 27 rfl) own_P_feed (cm_at 128 rfl) vk_By_size rfl nl_By_size rfl rfl rfl rfl (SH.o hS p1) (Y_By_size (by omega) hS p1 ⟨rfl, rfl⟩) ?_
  exact y_retI (ck_at dt_P_feed 28 rfl) rt_P_feed w
def c_P_feed_43 (h1 : qH) (d : Nat) (x5 : Int) (B : qB) (Q : qO → qB → Prop) : Prop := qY h1 d n_P_feedInt 0 [some (.ref 0), some (iv x5), none] [] B (fun o B' => o = .inl none ∧ SH B' ∧ c_P_feed_49 h1 d B' Q)
theorem c_P_feed_43_ok {h1 : qH} {d : Nat} {x5 : Int} {B : qB} {Q : qO → qB → Prop} (hd : 1 ≤ d) (hS : SH B) (w : c_P_feed_43 h1 d x5 B Q) : qY h1 (d + 1) n_P_feed 43 [some (.ref 0), none, none, none, none, some (iv x5)] [] B Q := by
  unfold c_P_feed_43 at w
  refine y_ldk (ok := q_isA) (n := 0) (ck_at dt_P_feed 22 rfl) rfl rfl (fun _ => rfl) rfl rfl ?_
  refine y_ldk (ok := q_isI) (n := 5) (ck_at dt_P_feed 23 rfl) rfl rfl (fun _ => rfl) rfl rfl ?_
  refine y_virt (k' := n_P_feedInt) (n := 1) (as := [iv x5]) (r := []) (ck_at dt_P_feed 24 rfl) own_P_feed (cm_at 127 rfl) vk_P_feedInt rfl nl_P_feedInt rfl rfl rfl rfl ⟨(SH.o hS ⟨by decide, by decide, by decide⟩), ?_⟩
  exact w.mono (Nat.le_refl _) (fun o B' ⟨ho, hS', w⟩ => Or.inl ⟨none, ho, y_wk (c_P_feed_49_ok (by omega) hS' w) ⟨rfl, trivial⟩⟩)
def c_P_feed_37 (h1 : qH) (d : Nat) (x4 : Int) (x5 : Int) (B : qB) (Q : qO → qB → Prop) : Prop := qY h1 d n_P_feedInt 0 [some (.ref 0), some (iv x4), none] [] B (fun o B' => o = .inl none ∧ SH B' ∧ c_P_feed_43 h1 d x5 B' Q)
theorem c_P_feed_37_ok {h1 : qH} {d : Nat} {x4 : Int} {x5 : Int} {B : qB} {Q : qO → qB → Prop} (hd : 1 ≤ d) (hS : SH B) (w : c_P_feed_37 h1 d x4 x5 B Q) : qY h1 (d + 1) n_P_feed 37 [some (.ref 0), none, none, none, some (iv x4), some (iv x5)] [] B Q := by
  unfold c_P_feed_37 at w
  refine y_ldk (ok := q_isA) (n := 0) (ck_at dt_P_feed 19 rfl) rfl rfl (fun _ => rfl) rfl rfl ?_
  refine y_ldk (ok := q_isI) (n := 4) (ck_at dt_P_feed 20 rfl) rfl rfl (fun _ => rfl) rfl rfl ?_
  refine y_virt (k' := n_P_feedInt) (n := 1) (as := [iv x4]) (r := []) (ck_at dt_P_feed 21 rfl) own_P_feed (cm_at 127 rfl) vk_P_feedInt rfl nl_P_feedInt rfl rfl rfl rfl ⟨(SH.o hS ⟨by decide, by decide, by decide⟩), ?_⟩
  exact w.mono (Nat.le_refl _) (fun o B' ⟨ho, hS', w⟩ => Or.inl ⟨none, ho, y_wk (c_P_feed_43_ok (by omega) hS' w) ⟨rfl, ⟨rfl, trivial⟩⟩⟩)
def c_P_feed_32 (h1 : qH) (d : Nat) (x3 : Int) (x4 : Int) (x5 : Int) (B : qB) (Q : qO → qB → Prop) : Prop := qY h1 d n_P_feedInt 0 [some (.ref 0), some (iv x3), none] [] B (fun o B' => o = .inl none ∧ SH B' ∧ c_P_feed_37 h1 d x4 x5 B' Q)
theorem c_P_feed_32_ok {h1 : qH} {d : Nat} {x3 : Int} {x4 : Int} {x5 : Int} {B : qB} {Q : qO → qB → Prop} (hd : 1 ≤ d) (hS : SH B) (w : c_P_feed_32 h1 d x3 x4 x5 B Q) : qY h1 (d + 1) n_P_feed 32 [some (.ref 0), none, none, some (iv x3), some (iv x4), some (iv x5)] [] B Q := by
  unfold c_P_feed_32 at w
  refine y_ldk (ok := q_isA) (n := 0) (ck_at dt_P_feed 16 rfl) rfl rfl (fun _ => rfl) rfl rfl ?_
  refine y_ldk (ok := q_isI) (n := 3) (ck_at dt_P_feed 17 rfl) rfl rfl (fun _ => rfl) rfl rfl ?_
  refine y_virt (k' := n_P_feedInt) (n := 1) (as := [iv x3]) (r := []) (ck_at dt_P_feed 18 rfl) own_P_feed (cm_at 127 rfl) vk_P_feedInt rfl nl_P_feedInt rfl rfl rfl rfl ⟨(SH.o hS ⟨by decide, by decide, by decide⟩), ?_⟩
  exact w.mono (Nat.le_refl _) (fun o B' ⟨ho, hS', w⟩ => Or.inl ⟨none, ho, y_wk (c_P_feed_37_ok (by omega) hS' w) ⟨rfl, ⟨rfl, ⟨rfl, trivial⟩⟩⟩⟩)
def c_P_feed_27 (h1 : qH) (d : Nat) (x2 : Int) (x3 : Int) (x4 : Int) (x5 : Int) (B : qB) (Q : qO → qB → Prop) : Prop := qY h1 d n_P_feedInt 0 [some (.ref 0), some (iv x2), none] [] B (fun o B' => o = .inl none ∧ SH B' ∧ c_P_feed_32 h1 d x3 x4 x5 B' Q)
theorem c_P_feed_27_ok {h1 : qH} {d : Nat} {x2 : Int} {x3 : Int} {x4 : Int} {x5 : Int} {B : qB} {Q : qO → qB → Prop} (hd : 1 ≤ d) (hS : SH B) (w : c_P_feed_27 h1 d x2 x3 x4 x5 B Q) : qY h1 (d + 1) n_P_feed 27 [some (.ref 0), none, some (iv x2), some (iv x3), some (iv x4), some (iv x5)] [] B Q := by
  unfold c_P_feed_27 at w
  refine y_ldk (ok := q_isA) (n := 0) (ck_at dt_P_feed 13 rfl) rfl rfl (fun _ => rfl) rfl rfl ?_
  refine y_ldk (ok := q_isI) (n := 2) (ck_at dt_P_feed 14 rfl) rfl rfl (fun _ => rfl) rfl rfl ?_
  refine y_virt (k' := n_P_feedInt) (n := 1) (as := [iv x2]) (r := []) (ck_at dt_P_feed 15 rfl) own_P_feed (cm_at 127 rfl) vk_P_feedInt rfl nl_P_feedInt rfl rfl rfl rfl ⟨(SH.o hS ⟨by decide, by decide, by decide⟩), ?_⟩
  exact w.mono (Nat.le_refl _) (fun o B' ⟨ho, hS', w⟩ => Or.inl ⟨none, ho, y_wk (c_P_feed_32_ok (by omega) hS' w) ⟨rfl, ⟨rfl, ⟨rfl, ⟨rfl, trivial⟩⟩⟩⟩⟩)
def c_P_feed_0 (h1 : qH) (d : Nat) (x1 : Int) (x2 : Int) (x3 : Int) (x4 : Int) (x5 : Int) (B : qB) (Q : qO → qB → Prop) : Prop := ob 1 ((B 0 8).toNat) ∧ R32 (bl ((B 0 8).toNat) - B ((B 0 8).toNat) 1) ∧ (bl ((B 0 8).toNat) - B ((B 0 8).toNat) 1 ≥ 20 → qY h1 d n_P_feedInt 0 [some (.ref 0), some (iv x1), none] [] B (fun o B' => o = .inl none ∧ SH B' ∧ c_P_feed_27 h1 d x2 x3 x4 x5 B' Q)) ∧ (bl ((B 0 8).toNat) - B ((B 0 8).toNat) 1 < 20 → (B 2000000000 (-1) = 0 ∧ 0 ≤ B 2000000000 0 ∧ 0 ≤ B 2000000000 1) ∧ Q (.inr "java/lang/IndexOutOfBoundsException") (thC B))
theorem c_P_feed_0_ok {h1 : qH} {d : Nat} {x1 : Int} {x2 : Int} {x3 : Int} {x4 : Int} {x5 : Int} {B : qB} {Q : qO → qB → Prop} (hd : 1 ≤ d) (hS : SH B) (w : c_P_feed_0 h1 d x1 x2 x3 x4 x5 B Q) : qY h1 (d + 1) n_P_feed 0 [some (.ref 0), some (iv x1), some (iv x2), some (iv x3), some (iv x4), some (iv x5)] [] B Q := by
  unfold c_P_feed_0 at w
  obtain ⟨p1, p2, w⟩ := w
  refine y_ldk (ok := q_isA) (n := 0) (ck_at dt_P_feed 0 rfl) rfl rfl (fun _ => rfl) rfl rfl ?_
  refine y_getD (K := 10) (j := 8) (a := 0) (ck_at dt_P_feed 1 rfl) own_P_feed (cf_at 53 rfl) rfl rfl rfl ⟨(SH.o hS ⟨by decide, by decide, by decide⟩), ?_⟩
  refine y_virtP (k' := n_By_room) (n := 0) (as := []) (r := []) (ck_at dt_P_feed 2 rfl) own_P_feed (cm_at 126 rfl) vk_By_room rfl nl_By_room rfl rfl rfl rfl (SH.o hS p1) (Y_By_room (by omega) hS p1 ⟨rfl, rfl⟩) ?_
  refine y_op (ck_at dt_P_feed 3 rfl) rfl (o_bipush _ (by decide)) ?_
  refine y_icmp (t := 22) (ck_at dt_P_feed 4 rfl) rfl p2 ⟨by decide, by decide⟩ ?_ ?_
  · intro q; have w := w.1 q
    refine y_ldk (ok := q_isA) (n := 0) (ck_at dt_P_feed 10 rfl) rfl rfl (fun _ => rfl) rfl rfl ?_
    refine y_ldk (ok := q_isI) (n := 1) (ck_at dt_P_feed 11 rfl) rfl rfl (fun _ => rfl) rfl rfl ?_
    refine y_virt (k' := n_P_feedInt) (n := 1) (as := [iv x1]) (r := []) (ck_at dt_P_feed 12 rfl) own_P_feed (cm_at 127 rfl) vk_P_feedInt rfl nl_P_feedInt rfl rfl rfl rfl ⟨(SH.o hS ⟨by decide, by decide, by decide⟩), ?_⟩
    exact w.mono (Nat.le_refl _) (fun o B' ⟨ho, hS', w⟩ => Or.inl ⟨none, ho, y_wk (c_P_feed_27_ok (by omega) hS' w) ⟨rfl, ⟨rfl, ⟨rfl, ⟨rfl, ⟨rfl, trivial⟩⟩⟩⟩⟩⟩)
  · intro q; have w := w.2 q
    exact y_throw (st := []) (E := "java/lang/IndexOutOfBoundsException") (ck_at dt_P_feed 5 rfl) (mem_97 own_P_feed) (th_P_feed_12 []) w
/-! PatternTrier.feedInt(I)V -/
def t_P_feedInt : List (Nat × Instr × Nat) := [(0, .bipush 24, 2), (2, .istore_n 2, 1), (3, .iload_n 2, 1), (4, .ifCond .lt 20, 3), (7, .aload_n 0, 1), (8, .getfield 35, 3), (11, .iload_n 1, 1), (12, .iload_n 2, 1), (13, .iushr, 1), (14, .invokevirtual 256, 3), (17, .pop, 1), (18, .iinc 2 (-8), 3), (21, .goto (-18), 3), (24, .return_, 1)]
set_option maxRecDepth 100000 in
theorem dt_P_feedInt : q_ck n_P_feedInt t_P_feedInt = true := by decide +kernel
def c_P_feedInt_3 (h1 : qH) (d : Nat) (x1 : Int) (x2 : Int) (B : qB) (Q : qO → qB → Prop) : Prop := R32 x2 ∧ (x2 < 0 → Q (.inl none) B) ∧ (x2 ≥ 0 → ob 1 ((B 0 8).toNat) ∧ bOK B ((B 0 8).toNat) ∧ qY h1 (d + 1) n_P_feedInt 3 [some (.ref 0), some (iv x1), some (iv (x2 + (-8)))] [] (adB B ((B 0 8).toNat) (iUshr x1 x2)) Q)
theorem c_P_feedInt_3_ok {h1 : qH} {d : Nat} {x1 : Int} {x2 : Int} {B : qB} {Q : qO → qB → Prop} (hd : 1 ≤ d) (hS : SH B) (w : c_P_feedInt_3 h1 d x1 x2 B Q) : qY h1 (d + 1) n_P_feedInt 3 [some (.ref 0), some (iv x1), some (iv x2)] [] B Q := by
  unfold c_P_feedInt_3 at w
  obtain ⟨p1, w⟩ := w
  refine y_ldk (ok := q_isI) (n := 2) (ck_at dt_P_feedInt 2 rfl) rfl rfl (fun _ => rfl) rfl rfl ?_
  refine y_ifz (t := 24) (ck_at dt_P_feedInt 3 rfl) rfl p1 ?_ ?_
  · intro q; have w := w.1 q
    exact y_ret0 (ck_at dt_P_feedInt 13 rfl) rt_P_feedInt w
  · intro q; have w := w.2 q
    obtain ⟨p2, p3, w⟩ := w
    refine y_ldk (ok := q_isA) (n := 0) (ck_at dt_P_feedInt 4 rfl) rfl rfl (fun _ => rfl) rfl rfl ?_
    refine y_getD (K := 10) (j := 8) (a := 0) (ck_at dt_P_feedInt 5 rfl) own_P_feedInt (cf_at 53 rfl) rfl rfl rfl ⟨(SH.o hS ⟨by decide, by decide, by decide⟩), ?_⟩
    refine y_ldk (ok := q_isI) (n := 1) (ck_at dt_P_feedInt 6 rfl) rfl rfl (fun _ => rfl) rfl rfl ?_
    refine y_ldk (ok := q_isI) (n := 2) (ck_at dt_P_feedInt 7 rfl) rfl rfl (fun _ => rfl) rfl rfl ?_
    refine y_op (ck_at dt_P_feedInt 8 rfl) rfl o_iushr ?_
    refine y_virtP (k' := n_By_add) (n := 0) (as := [iv (iUshr x1 x2)]) (r := []) (ck_at dt_P_feedInt 9 rfl) own_P_feedInt (cm_at 159 rfl) vk_By_add rfl nl_By_add rfl rfl rfl rfl (SH.o hS p2) (Y_By_add (by omega) hS p2 p3 ⟨rfl, rfl⟩) ?_
    have hS4 : SH (adB B ((B 0 8).toNat) (iUshr x1 x2)) := S_By_add hS p2 p3
    refine y_op (ck_at dt_P_feedInt 10 rfl) rfl rfl ?_
    refine y_iinc (n := 2) (L' := [some (.ref 0), some (iv x1), some (iv (x2 + (-8)))]) (ck_at dt_P_feedInt 11 rfl) rfl nl_P_feedInt (by decide) rfl rfl ?_
    refine y_goto (t := 3) (ck_at dt_P_feedInt 12 rfl) rfl ?_
    exact y_wk w ⟨rfl, ⟨rfl, ⟨rfl, trivial⟩⟩⟩
def c_P_feedInt_0 (h1 : qH) (d : Nat) (x1 : Int) (B : qB) (Q : qO → qB → Prop) : Prop := qY h1 (d + 1) n_P_feedInt 3 [some (.ref 0), some (iv x1), some (iv 24)] [] B Q
theorem c_P_feedInt_0_ok {h1 : qH} {d : Nat} {x1 : Int} {B : qB} {Q : qO → qB → Prop} (hd : 1 ≤ d) (hS : SH B) (w : c_P_feedInt_0 h1 d x1 B Q) : qY h1 (d + 1) n_P_feedInt 0 [some (.ref 0), some (iv x1), none] [] B Q := by
  unfold c_P_feedInt_0 at w
  refine y_op (ck_at dt_P_feedInt 0 rfl) rfl (o_bipush _ (by decide)) ?_
  refine y_st1 (ok := q_isI) (n := 2) (L' := [some (.ref 0), some (iv x1), some (iv 24)]) (ck_at dt_P_feedInt 1 rfl) rfl (fun _ => rfl) (fun _ _ => rfl) rfl nl_P_feedInt (by decide) rfl rfl ?_
  exact y_wk w ⟨rfl, ⟨rfl, ⟨rfl, trivial⟩⟩⟩
/-! PatternTrier.end(I)I -/
def t_P_end : List (Nat × Instr × Nat) := [(0, .iload_n 1, 1), (1, .ifCond .lt 14, 3), (4, .iload_n 1, 1), (5, .aload_n 0, 1), (6, .getfield 35, 3), (9, .invokevirtual 107, 3), (12, .if_icmp .le 13, 3), (15, .new 110, 3), (18, .dup, 1), (19, .ldc 112, 2), (21, .invokespecial 114, 3), (24, .athrow, 1), (25, .aload_n 0, 1), (26, .getfield 35, 3), (29, .iload_n 1, 1), (30, .invokevirtual 115, 3), (33, .iload_n 1, 1), (34, .ireturn, 1)]
set_option maxRecDepth 100000 in
theorem dt_P_end : q_ck n_P_end t_P_end = true := by decide +kernel
set_option maxRecDepth 100000 in
theorem th_P_end_15 (st : List Value) : q_throw (q_ms n_P_end).2.1 (q_ms n_P_end).2.2.1 15 (.new 110) [] = some "java/lang/IllegalArgumentException" := by decide +kernel
def c_P_end_0 (h1 : qH) (d : Nat) (x1 : Int) (B : qB) (Q : qO → qB → Prop) : Prop := R32 x1 ∧ (x1 < 0 → (B 2000000000 (-1) = 0 ∧ 0 ≤ B 2000000000 0 ∧ 0 ≤ B 2000000000 1) ∧ Q (.inr "java/lang/IllegalArgumentException") (thC B)) ∧ (x1 ≥ 0 → ob 1 ((B 0 8).toNat) ∧ R32 (B ((B 0 8).toNat) 1) ∧ (x1 ≤ B ((B 0 8).toNat) 1 → bOK B ((B 0 8).toNat) ∧ Q (.inl (some (iv x1))) (cuB B ((B 0 8).toNat) x1)) ∧ (x1 > B ((B 0 8).toNat) 1 → (B 2000000000 (-1) = 0 ∧ 0 ≤ B 2000000000 0 ∧ 0 ≤ B 2000000000 1) ∧ Q (.inr "java/lang/IllegalArgumentException") (thC B)))
theorem c_P_end_0_ok {h1 : qH} {d : Nat} {x1 : Int} {B : qB} {Q : qO → qB → Prop} (hd : 1 ≤ d) (hS : SH B) (w : c_P_end_0 h1 d x1 B Q) : qY h1 (d + 1) n_P_end 0 [some (.ref 0), some (iv x1)] [] B Q := by
  unfold c_P_end_0 at w
  obtain ⟨p1, w⟩ := w
  refine y_ldk (ok := q_isI) (n := 1) (ck_at dt_P_end 0 rfl) rfl rfl (fun _ => rfl) rfl rfl ?_
  refine y_ifz (t := 15) (ck_at dt_P_end 1 rfl) rfl p1 ?_ ?_
  · intro q; have w := w.1 q
    exact y_throw (st := []) (E := "java/lang/IllegalArgumentException") (ck_at dt_P_end 7 rfl) (mem_110 own_P_end) (th_P_end_15 []) w
  · intro q; have w := w.2 q
    obtain ⟨p2, p3, w⟩ := w
    refine y_ldk (ok := q_isI) (n := 1) (ck_at dt_P_end 2 rfl) rfl rfl (fun _ => rfl) rfl rfl ?_
    refine y_ldk (ok := q_isA) (n := 0) (ck_at dt_P_end 3 rfl) rfl rfl (fun _ => rfl) rfl rfl ?_
    refine y_getD (K := 10) (j := 8) (a := 0) (ck_at dt_P_end 4 rfl) own_P_end (cf_at 53 rfl) rfl rfl rfl ⟨(SH.o hS ⟨by decide, by decide, by decide⟩), ?_⟩
    refine y_virtP (k' := n_By_size) (n := 0) (as := []) (r := [iv x1]) (ck_at dt_P_end 5 rfl) own_P_end (cm_at 128 rfl) vk_By_size rfl nl_By_size rfl rfl rfl rfl (SH.o hS p2) (Y_By_size (by omega) hS p2 ⟨rfl, rfl⟩) ?_
    refine y_icmp (t := 25) (ck_at dt_P_end 6 rfl) rfl p1 p3 ?_ ?_
    · intro q; have w := w.1 q
      obtain ⟨p4, w⟩ := w
      refine y_ldk (ok := q_isA) (n := 0) (ck_at dt_P_end 12 rfl) rfl rfl (fun _ => rfl) rfl rfl ?_
      refine y_getD (K := 10) (j := 8) (a := 0) (ck_at dt_P_end 13 rfl) own_P_end (cf_at 53 rfl) rfl rfl rfl ⟨(SH.o hS ⟨by decide, by decide, by decide⟩), ?_⟩
      refine y_ldk (ok := q_isI) (n := 1) (ck_at dt_P_end 14 rfl) rfl rfl (fun _ => rfl) rfl rfl ?_
      refine y_virtV (k' := n_By_cut) (n := 0) (as := [iv x1]) (r := []) (ck_at dt_P_end 15 rfl) own_P_end (cm_at 129 rfl) vk_By_cut rfl nl_By_cut rfl rfl rfl rfl (SH.o hS p2) (Y_By_cut (by omega) hS p2 p4 p1 ⟨rfl, rfl⟩) ?_
      have hS5 : SH (cuB B ((B 0 8).toNat) x1) := S_By_cut hS
      refine y_ldk (ok := q_isI) (n := 1) (ck_at dt_P_end 16 rfl) rfl rfl (fun _ => rfl) rfl rfl ?_
      exact y_retI (ck_at dt_P_end 17 rfl) rt_P_end w
    · intro q; have w := w.2 q
      exact y_throw (st := []) (E := "java/lang/IllegalArgumentException") (ck_at dt_P_end 7 rfl) (mem_110 own_P_end) (th_P_end_15 []) w
/-! PatternTrier.pattern(I)I -/
def t_P_pattern : List (Nat × Instr × Nat) := [(0, .aload_n 0, 1), (1, .invokevirtual 118, 3), (4, .astore_n 2, 1), (5, .aload_n 0, 1), (6, .iconst (-1), 1), (7, .putfield 89, 3), (10, .aload_n 0, 1), (11, .iload_n 1, 1), (12, .invokevirtual 122, 3), (15, .astore_n 3, 1), (16, .aload_n 0, 1), (17, .aload_n 0, 1), (18, .getfield 57, 3), (21, .aload_n 2, 1), (22, .invokevirtual 126, 3), (25, .putfield 89, 3), (28, .aload_n 0, 1), (29, .getfield 89, 3), (32, .iconst (-1), 1), (33, .if_icmp .eq 13, 3), (36, .new 130, 3), (39, .dup, 1), (40, .ldc 132, 2), (42, .invokespecial 134, 3), (45, .athrow, 1), (46, .aload_n 0, 1), (47, .getfield 48, 3), (50, .aload_n 0, 1), (51, .getfield 57, 3), (54, .invokevirtual 135, 3), (57, .invokevirtual 138, 3), (60, .sipush 400, 3), (63, .if_icmp .le 13, 3), (66, .new 97, 3), (69, .dup, 1), (70, .ldc 142, 2), (72, .invokespecial 101, 3), (75, .athrow, 1), (76, .aload_n 0, 1), (77, .getfield 66, 3), (80, .aload_n 3, 1), (81, .aload_n 0, 1), (82, .getfield 57, 3), (85, .invokevirtual 135, 3), (88, .aload_n 0, 1), (89, .getfield 57, 3), (92, .invokevirtual 144, 3), (95, .invokevirtual 146, 3), (98, .aload_n 3, 1), (99, .invokevirtual 150, 3), (102, .ireturn, 1)]
set_option maxRecDepth 100000 in
theorem dt_P_pattern : q_ck n_P_pattern t_P_pattern = true := by decide +kernel
set_option maxRecDepth 100000 in
theorem th_P_pattern_66 (st : List Value) : q_throw (q_ms n_P_pattern).2.1 (q_ms n_P_pattern).2.2.1 66 (.new 97) [] = some "java/lang/IndexOutOfBoundsException" := by decide +kernel
set_option maxRecDepth 100000 in
theorem th_P_pattern_36 (st : List Value) : q_throw (q_ms n_P_pattern).2.1 (q_ms n_P_pattern).2.2.1 36 (.new 130) [] = some "java/lang/UnsupportedOperationException" := by decide +kernel
def c_P_pattern_98 (h1 : qH) (d : Nat) (a3 : Nat) (B : qB) (Q : qO → qB → Prop) : Prop := Q (.inl (some (iv (B a3 10)))) B
theorem c_P_pattern_98_ok {h1 : qH} {d : Nat} {a3 : Nat} {B : qB} {Q : qO → qB → Prop} (hd : 2 ≤ d) (hS : SH B) (ha3 : ob 5 a3) (w : c_P_pattern_98 h1 d a3 B Q) : qY h1 (d + 1) n_P_pattern 98 [none, none, none, some (.ref a3)] [] B Q := by
  unfold c_P_pattern_98 at w
  refine y_ldk (ok := q_isA) (n := 3) (ck_at dt_P_pattern 48 rfl) rfl rfl (fun _ => rfl) rfl rfl ?_
  refine y_virtP (k' := n_Pr_weight) (n := 0) (as := []) (r := []) (ck_at dt_P_pattern 49 rfl) own_P_pattern (cm_at 137 rfl) vk_Pr_weight rfl nl_Pr_weight rfl rfl rfl rfl (SH.o hS ha3) (Y_Pr_weight (by omega) hS ha3 ⟨rfl, rfl⟩) ?_
  exact y_retI (ck_at dt_P_pattern 50 rfl) rt_P_pattern w
def c_P_pattern_25 (h1 : qH) (d : Nat) (a3 : Nat) (s1 : Int) (B : qB) (Q : qO → qB → Prop) : Prop := R32 s1 ∧ (s1 = (-1) → 0 ≤ ((u2 B 0 12 s1) 100 4) ∧ ((u2 B 0 12 s1) 100 4) < 408 ∧ R32 ((u2 B 0 12 s1) 97 ((u2 B 0 12 s1) 100 4)) ∧ ((u2 B 0 12 s1) 97 ((u2 B 0 12 s1) 100 4) ≤ 400 → qY h1 d n_Bu_build 0 [some (.ref 101), some (.ref a3), some (iv ((u2 B 0 12 s1) 100 4)), some (iv ((u2 B 0 12 s1) 100 5)), none] [] (u2 B 0 12 s1) (fun o B' => o = .inl none ∧ SH B' ∧ c_P_pattern_98 h1 d a3 B' Q)) ∧ ((u2 B 0 12 s1) 97 ((u2 B 0 12 s1) 100 4) > 400 → ((u2 B 0 12 s1) 2000000000 (-1) = 0 ∧ 0 ≤ (u2 B 0 12 s1) 2000000000 0 ∧ 0 ≤ (u2 B 0 12 s1) 2000000000 1) ∧ Q (.inr "java/lang/IndexOutOfBoundsException") (thC (u2 B 0 12 s1)))) ∧ (¬ s1 = (-1) → ((u2 B 0 12 s1) 2000000000 (-1) = 0 ∧ 0 ≤ (u2 B 0 12 s1) 2000000000 0 ∧ 0 ≤ (u2 B 0 12 s1) 2000000000 1) ∧ Q (.inr "java/lang/UnsupportedOperationException") (thC (u2 B 0 12 s1)))
theorem c_P_pattern_25_ok {h1 : qH} {d : Nat} {a3 : Nat} {s1 : Int} {B : qB} {Q : qO → qB → Prop} (hd : 2 ≤ d) (hS : SH B) (ha3 : ob 5 a3) (w : c_P_pattern_25 h1 d a3 s1 B Q) : qY h1 (d + 1) n_P_pattern 25 [some (.ref 0), none, none, some (.ref a3)] [iv s1, .ref 0] B Q := by
  unfold c_P_pattern_25 at w
  obtain ⟨p2, w⟩ := w
  refine y_putI (K := 10) (j := 12) (a := 0) (ck_at dt_P_pattern 15 rfl) own_P_pattern (cf_at 62 rfl) rfl rfl rfl rfl rfl ⟨⟨SH.o hS ⟨by decide, by decide, by decide⟩, by decide⟩, ?_⟩
  have hS1 := SH_u2 (b := 0) (x := 12) (z := s1) hS (by decide)
  refine y_ldk (ok := q_isA) (n := 0) (ck_at dt_P_pattern 16 rfl) rfl rfl (fun _ => rfl) rfl rfl ?_
  refine y_getI (K := 10) (j := 12) (a := 0) (ck_at dt_P_pattern 17 rfl) own_P_pattern (cf_at 62 rfl) rfl rfl rfl ⟨(SH.o hS1 ⟨by decide, by decide, by decide⟩), ?_⟩
  refine y_op (ck_at dt_P_pattern 18 rfl) rfl (o_const _) ?_
  refine y_icmp (t := 46) (ck_at dt_P_pattern 19 rfl) rfl p2 ⟨by decide, by decide⟩ ?_ ?_
  · intro q; have w := w.1 q
    obtain ⟨p3, p4, p5, w⟩ := w
    refine y_ldk (ok := q_isA) (n := 0) (ck_at dt_P_pattern 25 rfl) rfl rfl (fun _ => rfl) rfl rfl ?_
    refine y_getF (r := 90) (K := 10) (j := 3) (a := 0) (ck_at dt_P_pattern 26 rfl) own_P_pattern (cf_at 56 rfl) rfl rfl ⟨(SH.o hS1 ⟨by decide, by decide, by decide⟩), ?_⟩
    refine y_ldk (ok := q_isA) (n := 0) (ck_at dt_P_pattern 27 rfl) rfl rfl (fun _ => rfl) rfl rfl ?_
    refine y_getF (r := 100) (K := 10) (j := 4) (a := 0) (ck_at dt_P_pattern 28 rfl) own_P_pattern (cf_at 57 rfl) rfl rfl ⟨(SH.o hS1 ⟨by decide, by decide, by decide⟩), ?_⟩
    refine y_virtP (k' := n_Re_root) (n := 0) (as := []) (r := [.ref 90]) (ck_at dt_P_pattern 29 rfl) own_P_pattern (cm_at 133 rfl) vk_Re_root rfl nl_Re_root rfl rfl rfl rfl (SH.o hS1 ⟨by decide, by decide, by decide⟩) (Y_Re_root (by omega) hS1 ⟨rfl, rfl⟩) ?_
    refine y_virtP (k' := n_Tr_weightOf) (n := 0) (as := [iv ((u2 B 0 12 s1) 100 4)]) (r := []) (ck_at dt_P_pattern 30 rfl) own_P_pattern (cm_at 134 rfl) vk_Tr_weightOf rfl nl_Tr_weightOf rfl rfl rfl rfl (SH.o hS1 ⟨by decide, by decide, by decide⟩) (Y_Tr_weightOf (by omega) hS1 p3 p4 ⟨rfl, rfl⟩) ?_
    refine y_op (ck_at dt_P_pattern 31 rfl) rfl (o_sipush _ (by decide)) ?_
    refine y_icmp (t := 76) (ck_at dt_P_pattern 32 rfl) rfl p5 ⟨by decide, by decide⟩ ?_ ?_
    · intro q; have w := w.1 q
      refine y_ldk (ok := q_isA) (n := 0) (ck_at dt_P_pattern 38 rfl) rfl rfl (fun _ => rfl) rfl rfl ?_
      refine y_getF (r := 101) (K := 10) (j := 5) (a := 0) (ck_at dt_P_pattern 39 rfl) own_P_pattern (cf_at 58 rfl) rfl rfl ⟨(SH.o hS1 ⟨by decide, by decide, by decide⟩), ?_⟩
      refine y_ldk (ok := q_isA) (n := 3) (ck_at dt_P_pattern 40 rfl) rfl rfl (fun _ => rfl) rfl rfl ?_
      refine y_ldk (ok := q_isA) (n := 0) (ck_at dt_P_pattern 41 rfl) rfl rfl (fun _ => rfl) rfl rfl ?_
      refine y_getF (r := 100) (K := 10) (j := 4) (a := 0) (ck_at dt_P_pattern 42 rfl) own_P_pattern (cf_at 57 rfl) rfl rfl ⟨(SH.o hS1 ⟨by decide, by decide, by decide⟩), ?_⟩
      refine y_virtP (k' := n_Re_root) (n := 0) (as := []) (r := [.ref a3, .ref 101]) (ck_at dt_P_pattern 43 rfl) own_P_pattern (cm_at 133 rfl) vk_Re_root rfl nl_Re_root rfl rfl rfl rfl (SH.o hS1 ⟨by decide, by decide, by decide⟩) (Y_Re_root (by omega) hS1 ⟨rfl, rfl⟩) ?_
      refine y_ldk (ok := q_isA) (n := 0) (ck_at dt_P_pattern 44 rfl) rfl rfl (fun _ => rfl) rfl rfl ?_
      refine y_getF (r := 100) (K := 10) (j := 4) (a := 0) (ck_at dt_P_pattern 45 rfl) own_P_pattern (cf_at 57 rfl) rfl rfl ⟨(SH.o hS1 ⟨by decide, by decide, by decide⟩), ?_⟩
      refine y_virtP (k' := n_Re_groups) (n := 0) (as := []) (r := [iv ((u2 B 0 12 s1) 100 4), .ref a3, .ref 101]) (ck_at dt_P_pattern 46 rfl) own_P_pattern (cm_at 135 rfl) vk_Re_groups rfl nl_Re_groups rfl rfl rfl rfl (SH.o hS1 ⟨by decide, by decide, by decide⟩) (Y_Re_groups (by omega) hS1 ⟨rfl, rfl⟩) ?_
      refine y_virt (k' := n_Bu_build) (n := 1) (as := [.ref a3, iv ((u2 B 0 12 s1) 100 4), iv ((u2 B 0 12 s1) 100 5)]) (r := []) (ck_at dt_P_pattern 47 rfl) own_P_pattern (cm_at 136 rfl) vk_Bu_build rfl nl_Bu_build rfl rfl rfl rfl ⟨(SH.o hS1 ⟨by decide, by decide, by decide⟩), ?_⟩
      exact w.mono (Nat.le_refl _) (fun o B' ⟨ho, hS', w⟩ => Or.inl ⟨none, ho, y_wk (c_P_pattern_98_ok (by omega) hS' ha3 w) ⟨rfl, trivial⟩⟩)
    · intro q; have w := w.2 q
      exact y_throw (st := []) (E := "java/lang/IndexOutOfBoundsException") (ck_at dt_P_pattern 33 rfl) (mem_97 own_P_pattern) (th_P_pattern_66 []) w
  · intro q; have w := w.2 q
    exact y_throw (st := []) (E := "java/lang/UnsupportedOperationException") (ck_at dt_P_pattern 20 rfl) (mem_130 own_P_pattern) (th_P_pattern_36 []) w
def c_P_pattern_15 (h1 : qH) (d : Nat) (a2 : Nat) (r0 : Nat) (B : qB) (Q : qO → qB → Prop) : Prop := qY h1 d n_Re_read 0 [some (.ref 100), some (.ref a2)] [] B (fun o B' => ∃ v : Int, o = .inl (some (iv v)) ∧ SH B' ∧ c_P_pattern_25 h1 d r0 v B' Q)
theorem c_P_pattern_15_ok {h1 : qH} {d : Nat} {a2 : Nat} {r0 : Nat} {B : qB} {Q : qO → qB → Prop} (hd : 2 ≤ d) (hS : SH B) (ha2 : ob 1 a2) (hr0 : ob 5 r0) (w : c_P_pattern_15 h1 d a2 r0 B Q) : qY h1 (d + 1) n_P_pattern 15 [some (.ref 0), none, some (.ref a2), none] [.ref r0] B Q := by
  unfold c_P_pattern_15 at w
  refine y_st1 (ok := q_isA) (n := 3) (L' := [some (.ref 0), none, some (.ref a2), some (.ref r0)]) (ck_at dt_P_pattern 9 rfl) rfl (fun _ => rfl) (fun _ _ => rfl) rfl nl_P_pattern (by decide) rfl rfl ?_
  refine y_ldk (ok := q_isA) (n := 0) (ck_at dt_P_pattern 10 rfl) rfl rfl (fun _ => rfl) rfl rfl ?_
  refine y_ldk (ok := q_isA) (n := 0) (ck_at dt_P_pattern 11 rfl) rfl rfl (fun _ => rfl) rfl rfl ?_
  refine y_getF (r := 100) (K := 10) (j := 4) (a := 0) (ck_at dt_P_pattern 12 rfl) own_P_pattern (cf_at 57 rfl) rfl rfl ⟨(SH.o hS ⟨by decide, by decide, by decide⟩), ?_⟩
  refine y_ldk (ok := q_isA) (n := 2) (ck_at dt_P_pattern 13 rfl) rfl rfl (fun _ => rfl) rfl rfl ?_
  refine y_virt (k' := n_Re_read) (n := 0) (as := [.ref a2]) (r := [.ref 0]) (ck_at dt_P_pattern 14 rfl) own_P_pattern (cm_at 132 rfl) vk_Re_read rfl nl_Re_read rfl rfl rfl rfl ⟨(SH.o hS ⟨by decide, by decide, by decide⟩), ?_⟩
  exact w.mono (Nat.le_refl _) (fun o B' ⟨v, ho, hS', w⟩ => Or.inl ⟨some (iv v), ho, y_wk (c_P_pattern_25_ok (by omega) hS' hr0 w) ⟨rfl, ⟨rfl, trivial⟩⟩⟩)
def c_P_pattern_4 (h1 : qH) (d : Nat) (x1 : Int) (r0 : Nat) (B : qB) (Q : qO → qB → Prop) : Prop := qY h1 d n_P_programAt 0 [some (.ref 0), some (iv x1)] [] (u2 B 0 12 (-1)) (fun o B' => (∃ v : Nat, o = .inl (some (.ref v)) ∧ ob 5 v ∧ SH B' ∧ c_P_pattern_15 h1 d r0 v B' Q) ∨ ∃ E, o = .inr E ∧ Q (.inr E) B')
theorem c_P_pattern_4_ok {h1 : qH} {d : Nat} {x1 : Int} {r0 : Nat} {B : qB} {Q : qO → qB → Prop} (hd : 2 ≤ d) (hS : SH B) (hr0 : ob 1 r0) (w : c_P_pattern_4 h1 d x1 r0 B Q) : qY h1 (d + 1) n_P_pattern 4 [some (.ref 0), some (iv x1), none, none] [.ref r0] B Q := by
  unfold c_P_pattern_4 at w
  refine y_st1 (ok := q_isA) (n := 2) (L' := [some (.ref 0), some (iv x1), some (.ref r0), none]) (ck_at dt_P_pattern 2 rfl) rfl (fun _ => rfl) (fun _ _ => rfl) rfl nl_P_pattern (by decide) rfl rfl ?_
  refine y_ldk (ok := q_isA) (n := 0) (ck_at dt_P_pattern 3 rfl) rfl rfl (fun _ => rfl) rfl rfl ?_
  refine y_op (ck_at dt_P_pattern 4 rfl) rfl (o_const _) ?_
  refine y_putI (K := 10) (j := 12) (a := 0) (ck_at dt_P_pattern 5 rfl) own_P_pattern (cf_at 62 rfl) rfl rfl rfl rfl rfl ⟨⟨SH.o hS ⟨by decide, by decide, by decide⟩, by decide⟩, ?_⟩
  have hS1 := SH_u2 (b := 0) (x := 12) (z := (-1)) hS (by decide)
  refine y_ldk (ok := q_isA) (n := 0) (ck_at dt_P_pattern 6 rfl) rfl rfl (fun _ => rfl) rfl rfl ?_
  refine y_ldk (ok := q_isI) (n := 1) (ck_at dt_P_pattern 7 rfl) rfl rfl (fun _ => rfl) rfl rfl ?_
  refine y_virt (k' := n_P_programAt) (n := 0) (as := [iv x1]) (r := []) (ck_at dt_P_pattern 8 rfl) own_P_pattern (cm_at 131 rfl) vk_P_programAt rfl nl_P_programAt rfl rfl rfl rfl ⟨(SH.o hS1 ⟨by decide, by decide, by decide⟩), ?_⟩
  exact w.mono (Nat.le_refl _) (fun o B' w => w.elim (fun ⟨v, ho, hov, hS', w⟩ => Or.inl ⟨some (.ref v), ho, y_wk (c_P_pattern_15_ok (by omega) hS' hr0 hov w) ⟨rfl, ⟨rfl, trivial⟩⟩⟩) Or.inr)
def c_P_pattern_0 (h1 : qH) (d : Nat) (x1 : Int) (B : qB) (Q : qO → qB → Prop) : Prop := qY h1 d n_P_takeTape 0 [some (.ref 0), none] [] B (fun o B' => ∃ v : Nat, o = .inl (some (.ref v)) ∧ ob 1 v ∧ SH B' ∧ c_P_pattern_4 h1 d x1 v B' Q)
theorem c_P_pattern_0_ok {h1 : qH} {d : Nat} {x1 : Int} {B : qB} {Q : qO → qB → Prop} (hd : 2 ≤ d) (hS : SH B) (w : c_P_pattern_0 h1 d x1 B Q) : qY h1 (d + 1) n_P_pattern 0 [some (.ref 0), some (iv x1), none, none] [] B Q := by
  unfold c_P_pattern_0 at w
  refine y_ldk (ok := q_isA) (n := 0) (ck_at dt_P_pattern 0 rfl) rfl rfl (fun _ => rfl) rfl rfl ?_
  refine y_virt (k' := n_P_takeTape) (n := 1) (as := []) (r := []) (ck_at dt_P_pattern 1 rfl) own_P_pattern (cm_at 130 rfl) vk_P_takeTape rfl nl_P_takeTape rfl rfl rfl rfl ⟨(SH.o hS ⟨by decide, by decide, by decide⟩), ?_⟩
  exact w.mono (Nat.le_refl _) (fun o B' ⟨v, ho, hov, hS', w⟩ => Or.inl ⟨some (.ref v), ho, y_wk (c_P_pattern_4_ok (by omega) hS' hov w) ⟨rfl, ⟨rfl, trivial⟩⟩⟩)
/-! PatternTrier.text(I)I -/
def t_P_text : List (Nat × Instr × Nat) := [(0, .aload_n 0, 1), (1, .invokevirtual 118, 3), (4, .astore_n 2, 1), (5, .aload_n 0, 1), (6, .iload_n 1, 1), (7, .invokevirtual 153, 3), (10, .astore_n 3, 1), (11, .aload_n 2, 1), (12, .invokevirtual 107, 3), (15, .sipush 1000, 3), (18, .if_icmp .le 13, 3), (21, .new 97, 3), (24, .dup, 1), (25, .ldc 157, 2), (27, .invokespecial 101, 3), (30, .athrow, 1), (31, .aload_n 3, 1), (32, .aload_n 2, 1), (33, .invokevirtual 159, 3), (36, .aload_n 3, 1), (37, .invokevirtual 107, 3), (40, .ireturn, 1)]
set_option maxRecDepth 100000 in
theorem dt_P_text : q_ck n_P_text t_P_text = true := by decide +kernel
set_option maxRecDepth 100000 in
theorem th_P_text_21 (st : List Value) : q_throw (q_ms n_P_text).2.1 (q_ms n_P_text).2.2.1 21 (.new 97) [] = some "java/lang/IndexOutOfBoundsException" := by decide +kernel
def c_P_text_36 (h1 : qH) (d : Nat) (a3 : Nat) (B : qB) (Q : qO → qB → Prop) : Prop := Q (.inl (some (iv (B a3 1)))) B
theorem c_P_text_36_ok {h1 : qH} {d : Nat} {a3 : Nat} {B : qB} {Q : qO → qB → Prop} (hd : 1 ≤ d) (hS : SH B) (ha3 : ob 1 a3) (w : c_P_text_36 h1 d a3 B Q) : qY h1 (d + 1) n_P_text 36 [none, none, none, some (.ref a3)] [] B Q := by
  unfold c_P_text_36 at w
  refine y_ldk (ok := q_isA) (n := 3) (ck_at dt_P_text 19 rfl) rfl rfl (fun _ => rfl) rfl rfl ?_
  refine y_virtP (k' := n_By_size) (n := 0) (as := []) (r := []) (ck_at dt_P_text 20 rfl) own_P_text (cm_at 128 rfl) vk_By_size rfl nl_By_size rfl rfl rfl rfl (SH.o hS ha3) (Y_By_size (by omega) hS ha3 ⟨rfl, rfl⟩) ?_
  exact y_retI (ck_at dt_P_text 21 rfl) rt_P_text w
def c_P_text_10 (h1 : qH) (d : Nat) (a2 : Nat) (r0 : Nat) (B : qB) (Q : qO → qB → Prop) : Prop := R32 (B a2 1) ∧ (B a2 1 ≤ 1000 → qY h1 d n_By_copy 0 [some (.ref r0), some (.ref a2)] [] B (fun o B' => o = .inl none ∧ SH B' ∧ c_P_text_36 h1 d r0 B' Q)) ∧ (B a2 1 > 1000 → (B 2000000000 (-1) = 0 ∧ 0 ≤ B 2000000000 0 ∧ 0 ≤ B 2000000000 1) ∧ Q (.inr "java/lang/IndexOutOfBoundsException") (thC B))
theorem c_P_text_10_ok {h1 : qH} {d : Nat} {a2 : Nat} {r0 : Nat} {B : qB} {Q : qO → qB → Prop} (hd : 1 ≤ d) (hS : SH B) (ha2 : ob 1 a2) (hr0 : ob 1 r0) (w : c_P_text_10 h1 d a2 r0 B Q) : qY h1 (d + 1) n_P_text 10 [none, none, some (.ref a2), none] [.ref r0] B Q := by
  unfold c_P_text_10 at w
  obtain ⟨p1, w⟩ := w
  refine y_st1 (ok := q_isA) (n := 3) (L' := [none, none, some (.ref a2), some (.ref r0)]) (ck_at dt_P_text 6 rfl) rfl (fun _ => rfl) (fun _ _ => rfl) rfl nl_P_text (by decide) rfl rfl ?_
  refine y_ldk (ok := q_isA) (n := 2) (ck_at dt_P_text 7 rfl) rfl rfl (fun _ => rfl) rfl rfl ?_
  refine y_virtP (k' := n_By_size) (n := 0) (as := []) (r := []) (ck_at dt_P_text 8 rfl) own_P_text (cm_at 128 rfl) vk_By_size rfl nl_By_size rfl rfl rfl rfl (SH.o hS ha2) (Y_By_size (by omega) hS ha2 ⟨rfl, rfl⟩) ?_
  refine y_op (ck_at dt_P_text 9 rfl) rfl (o_sipush _ (by decide)) ?_
  refine y_icmp (t := 31) (ck_at dt_P_text 10 rfl) rfl p1 ⟨by decide, by decide⟩ ?_ ?_
  · intro q; have w := w.1 q
    refine y_ldk (ok := q_isA) (n := 3) (ck_at dt_P_text 16 rfl) rfl rfl (fun _ => rfl) rfl rfl ?_
    refine y_ldk (ok := q_isA) (n := 2) (ck_at dt_P_text 17 rfl) rfl rfl (fun _ => rfl) rfl rfl ?_
    refine y_virt (k' := n_By_copy) (n := 0) (as := [.ref a2]) (r := []) (ck_at dt_P_text 18 rfl) own_P_text (cm_at 139 rfl) vk_By_copy rfl nl_By_copy rfl rfl rfl rfl ⟨(SH.o hS hr0), ?_⟩
    exact w.mono (Nat.le_refl _) (fun o B' ⟨ho, hS', w⟩ => Or.inl ⟨none, ho, y_wk (c_P_text_36_ok (by omega) hS' hr0 w) ⟨rfl, trivial⟩⟩)
  · intro q; have w := w.2 q
    exact y_throw (st := []) (E := "java/lang/IndexOutOfBoundsException") (ck_at dt_P_text 11 rfl) (mem_97 own_P_text) (th_P_text_21 []) w
def c_P_text_4 (h1 : qH) (d : Nat) (x1 : Int) (r0 : Nat) (B : qB) (Q : qO → qB → Prop) : Prop := qY h1 d n_P_textAt 0 [some (.ref 0), some (iv x1)] [] B (fun o B' => (∃ v : Nat, o = .inl (some (.ref v)) ∧ ob 1 v ∧ SH B' ∧ c_P_text_10 h1 d r0 v B' Q) ∨ ∃ E, o = .inr E ∧ Q (.inr E) B')
theorem c_P_text_4_ok {h1 : qH} {d : Nat} {x1 : Int} {r0 : Nat} {B : qB} {Q : qO → qB → Prop} (hd : 1 ≤ d) (hS : SH B) (hr0 : ob 1 r0) (w : c_P_text_4 h1 d x1 r0 B Q) : qY h1 (d + 1) n_P_text 4 [some (.ref 0), some (iv x1), none, none] [.ref r0] B Q := by
  unfold c_P_text_4 at w
  refine y_st1 (ok := q_isA) (n := 2) (L' := [some (.ref 0), some (iv x1), some (.ref r0), none]) (ck_at dt_P_text 2 rfl) rfl (fun _ => rfl) (fun _ _ => rfl) rfl nl_P_text (by decide) rfl rfl ?_
  refine y_ldk (ok := q_isA) (n := 0) (ck_at dt_P_text 3 rfl) rfl rfl (fun _ => rfl) rfl rfl ?_
  refine y_ldk (ok := q_isI) (n := 1) (ck_at dt_P_text 4 rfl) rfl rfl (fun _ => rfl) rfl rfl ?_
  refine y_virt (k' := n_P_textAt) (n := 0) (as := [iv x1]) (r := []) (ck_at dt_P_text 5 rfl) own_P_text (cm_at 138 rfl) vk_P_textAt rfl nl_P_textAt rfl rfl rfl rfl ⟨(SH.o hS ⟨by decide, by decide, by decide⟩), ?_⟩
  exact w.mono (Nat.le_refl _) (fun o B' w => w.elim (fun ⟨v, ho, hov, hS', w⟩ => Or.inl ⟨some (.ref v), ho, y_wk (c_P_text_10_ok (by omega) hS' hr0 hov w) ⟨rfl, trivial⟩⟩) Or.inr)
def c_P_text_0 (h1 : qH) (d : Nat) (x1 : Int) (B : qB) (Q : qO → qB → Prop) : Prop := qY h1 d n_P_takeTape 0 [some (.ref 0), none] [] B (fun o B' => ∃ v : Nat, o = .inl (some (.ref v)) ∧ ob 1 v ∧ SH B' ∧ c_P_text_4 h1 d x1 v B' Q)
theorem c_P_text_0_ok {h1 : qH} {d : Nat} {x1 : Int} {B : qB} {Q : qO → qB → Prop} (hd : 1 ≤ d) (hS : SH B) (w : c_P_text_0 h1 d x1 B Q) : qY h1 (d + 1) n_P_text 0 [some (.ref 0), some (iv x1), none, none] [] B Q := by
  unfold c_P_text_0 at w
  refine y_ldk (ok := q_isA) (n := 0) (ck_at dt_P_text 0 rfl) rfl rfl (fun _ => rfl) rfl rfl ?_
  refine y_virt (k' := n_P_takeTape) (n := 1) (as := []) (r := []) (ck_at dt_P_text 1 rfl) own_P_text (cm_at 130 rfl) vk_P_takeTape rfl nl_P_takeTape rfl rfl rfl rfl ⟨(SH.o hS ⟨by decide, by decide, by decide⟩), ?_⟩
  exact w.mono (Nat.le_refl _) (fun o B' ⟨v, ho, hov, hS', w⟩ => Or.inl ⟨some (.ref v), ho, y_wk (c_P_text_4_ok (by omega) hS' hov w) ⟨rfl, ⟨rfl, trivial⟩⟩⟩)
/-! PatternTrier.match(IIII)I -/
def t_P_match : List (Nat × Instr × Nat) := [(0, .aload_n 0, 1), (1, .iload_n 1, 1), (2, .invokevirtual 122, 3), (5, .astore 5, 2), (7, .aload_n 0, 1), (8, .iload_n 2, 1), (9, .invokevirtual 153, 3), (12, .astore 6, 2), (14, .iload_n 3, 1), (15, .ifCond .lt 8, 3), (18, .iload_n 3, 1), (19, .iconst 2, 1), (20, .if_icmp .le 13, 3), (23, .new 110, 3), (26, .dup, 1), (27, .ldc 163, 2), (29, .invokespecial 114, 3), (32, .athrow, 1), (33, .aload 5, 2), (35, .invokestatic 165, 3), (38, .iload_n 3, 1), (39, .ifCond .eq 28, 3), (42, .iload 4, 2), (44, .ifCond .lt 13, 3), (47, .iload 4, 2), (49, .aload 6, 2), (51, .invokevirtual 107, 3), (54, .if_icmp .le 13, 3), (57, .new 97, 3), (60, .dup, 1), (61, .ldc 169, 2), (63, .invokespecial 101, 3), (66, .athrow, 1), (67, .iload_n 3, 1), (68, .ifCond .ne 7, 3), (71, .iconst 0, 1), (72, .goto 5, 3), (75, .iload 4, 2), (77, .istore 7, 2), (79, .iload_n 3, 1), (80, .iconst 2, 1), (81, .if_icmp .ne 11, 3), (84, .aload 6, 2), (86, .invokevirtual 107, 3), (89, .goto 5, 3), (92, .iload 7, 2), (94, .istore 8, 2), (96, .aload_n 0, 1), (97, .getfield 75, 3), (100, .aload 5, 2), (102, .aload 6, 2), (104, .iload_n 3, 1), (105, .ifCond .ne 7, 3), (108, .iconst 1, 1), (109, .goto 4, 3), (112, .iconst 0, 1), (113, .invokevirtual 171, 3), (116, .aload_n 0, 1), (117, .getfield 75, 3), (120, .iload 7, 2), (122, .iload 8, 2), (124, .invokevirtual 175, 3), (127, .ifCond .ne 5, 3), (130, .iconst (-1), 1), (131, .ireturn, 1), (132, .aload_n 0, 1), (133, .getfield 75, 3), (136, .aload_n 0, 1), (137, .getfield 25, 3), (140, .invokevirtual 179, 3), (143, .aload_n 0, 1), (144, .getfield 75, 3), (147, .iconst 1, 1), (148, .invokevirtual 183, 3), (151, .ireturn, 1)]
set_option maxRecDepth 100000 in
theorem dt_P_match : q_ck n_P_match t_P_match = true := by decide +kernel
set_option maxRecDepth 100000 in
theorem th_P_match_23 (st : List Value) : q_throw (q_ms n_P_match).2.1 (q_ms n_P_match).2.2.1 23 (.new 110) [] = some "java/lang/IllegalArgumentException" := by decide +kernel
set_option maxRecDepth 100000 in
theorem th_P_match_57 (st : List Value) : q_throw (q_ms n_P_match).2.1 (q_ms n_P_match).2.2.1 57 (.new 97) [] = some "java/lang/IndexOutOfBoundsException" := by decide +kernel
def c_P_match_143 (h1 : qH) (d : Nat) (B : qB) (Q : qO → qB → Prop) : Prop := Q (.inl (some (iv (B 107 1)))) B
theorem c_P_match_143_ok {h1 : qH} {d : Nat} {B : qB} {Q : qO → qB → Prop} (hd : 1 ≤ d) (hS : SH B) (w : c_P_match_143 h1 d B Q) : qY h1 (d + 1) n_P_match 143 [some (.ref 0), none, none, none, none, none, none, none, none] [] B Q := by
  unfold c_P_match_143 at w
  refine y_ldk (ok := q_isA) (n := 0) (ck_at dt_P_match 70 rfl) rfl rfl (fun _ => rfl) rfl rfl ?_
  refine y_getF (r := 102) (K := 10) (j := 6) (a := 0) (ck_at dt_P_match 71 rfl) own_P_match (cf_at 59 rfl) rfl rfl ⟨(SH.o hS ⟨by decide, by decide, by decide⟩), ?_⟩
  refine y_op (ck_at dt_P_match 72 rfl) rfl (o_const _) ?_
  refine y_virtP (k' := n_Wa_mark) (n := 0) (as := [iv 1]) (r := []) (ck_at dt_P_match 73 rfl) own_P_match (cm_at 144 rfl) vk_Wa_mark rfl nl_Wa_mark rfl rfl rfl rfl (SH.o hS ⟨by decide, by decide, by decide⟩) (Y_Wa_mark (by omega) hS (by decide) (by decide) ⟨rfl, rfl⟩) ?_
  exact y_retI (ck_at dt_P_match 74 rfl) rt_P_match w
def c_P_match_127 (h1 : qH) (d : Nat) (s0 : Int) (B : qB) (Q : qO → qB → Prop) : Prop := R32 s0 ∧ (¬ s0 = 0 → qY h1 d n_Wa_copyMarks 0 [some (.ref 102), some (.ref 83)] [] B (fun o B' => o = .inl none ∧ SH B' ∧ c_P_match_143 h1 d B' Q)) ∧ (s0 = 0 → Q (.inl (some (iv (-1)))) B)
theorem c_P_match_127_ok {h1 : qH} {d : Nat} {s0 : Int} {B : qB} {Q : qO → qB → Prop} (hd : 1 ≤ d) (hS : SH B) (w : c_P_match_127 h1 d s0 B Q) : qY h1 (d + 1) n_P_match 127 [some (.ref 0), none, none, none, none, none, none, none, none] [iv s0] B Q := by
  unfold c_P_match_127 at w
  obtain ⟨p1, w⟩ := w
  refine y_ifz (t := 132) (ck_at dt_P_match 62 rfl) rfl p1 ?_ ?_
  · intro q; have w := w.1 q
    refine y_ldk (ok := q_isA) (n := 0) (ck_at dt_P_match 65 rfl) rfl rfl (fun _ => rfl) rfl rfl ?_
    refine y_getF (r := 102) (K := 10) (j := 6) (a := 0) (ck_at dt_P_match 66 rfl) own_P_match (cf_at 59 rfl) rfl rfl ⟨(SH.o hS ⟨by decide, by decide, by decide⟩), ?_⟩
    refine y_ldk (ok := q_isA) (n := 0) (ck_at dt_P_match 67 rfl) rfl rfl (fun _ => rfl) rfl rfl ?_
    refine y_getF (r := 83) (K := 10) (j := 2) (a := 0) (ck_at dt_P_match 68 rfl) own_P_match (cf_at 52 rfl) rfl rfl ⟨(SH.o hS ⟨by decide, by decide, by decide⟩), ?_⟩
    refine y_virt (k' := n_Wa_copyMarks) (n := 0) (as := [.ref 83]) (r := []) (ck_at dt_P_match 69 rfl) own_P_match (cm_at 143 rfl) vk_Wa_copyMarks rfl nl_Wa_copyMarks rfl rfl rfl rfl ⟨(SH.o hS ⟨by decide, by decide, by decide⟩), ?_⟩
    exact w.mono (Nat.le_refl _) (fun o B' ⟨ho, hS', w⟩ => Or.inl ⟨none, ho, y_wk (c_P_match_143_ok (by omega) hS' w) ⟨rfl, trivial⟩⟩)
  · intro q; have w := w.2 q
    refine y_op (ck_at dt_P_match 63 rfl) rfl (o_const _) ?_
    exact y_retI (ck_at dt_P_match 64 rfl) rt_P_match w
def c_P_match_116 (h1 : qH) (d : Nat) (x7 : Int) (x8 : Int) (B : qB) (Q : qO → qB → Prop) : Prop := qY h1 d n_Wa_tryPlaces 0 [some (.ref 102), some (iv x7), some (iv x8), none, none] [] B (fun o B' => ∃ v : Int, o = .inl (some (iv v)) ∧ SH B' ∧ c_P_match_127 h1 d v B' Q)
theorem c_P_match_116_ok {h1 : qH} {d : Nat} {x7 : Int} {x8 : Int} {B : qB} {Q : qO → qB → Prop} (hd : 1 ≤ d) (hS : SH B) (w : c_P_match_116 h1 d x7 x8 B Q) : qY h1 (d + 1) n_P_match 116 [some (.ref 0), none, none, none, none, none, none, some (iv x7), some (iv x8)] [] B Q := by
  unfold c_P_match_116 at w
  refine y_ldk (ok := q_isA) (n := 0) (ck_at dt_P_match 57 rfl) rfl rfl (fun _ => rfl) rfl rfl ?_
  refine y_getF (r := 102) (K := 10) (j := 6) (a := 0) (ck_at dt_P_match 58 rfl) own_P_match (cf_at 59 rfl) rfl rfl ⟨(SH.o hS ⟨by decide, by decide, by decide⟩), ?_⟩
  refine y_ldk (ok := q_isI) (n := 7) (ck_at dt_P_match 59 rfl) rfl rfl (fun _ => rfl) rfl rfl ?_
  refine y_ldk (ok := q_isI) (n := 8) (ck_at dt_P_match 60 rfl) rfl rfl (fun _ => rfl) rfl rfl ?_
  refine y_virt (k' := n_Wa_tryPlaces) (n := 2) (as := [iv x7, iv x8]) (r := []) (ck_at dt_P_match 61 rfl) own_P_match (cm_at 142 rfl) vk_Wa_tryPlaces rfl nl_Wa_tryPlaces rfl rfl rfl rfl ⟨(SH.o hS ⟨by decide, by decide, by decide⟩), ?_⟩
  exact w.mono (Nat.le_refl _) (fun o B' ⟨v, ho, hS', w⟩ => Or.inl ⟨some (iv v), ho, y_wk (c_P_match_127_ok (by omega) hS' w) ⟨rfl, trivial⟩⟩)
def c_P_match_113 (h1 : qH) (d : Nat) (x7 : Int) (x8 : Int) (r1 : Nat) (r2 : Nat) (s3 : Int) (B : qB) (Q : qO → qB → Prop) : Prop := qY h1 d n_Wa_prepare 0 [some (.ref 102), some (.ref r1), some (.ref r2), some (iv s3)] [] B (fun o B' => o = .inl none ∧ SH B' ∧ c_P_match_116 h1 d x7 x8 B' Q)
theorem c_P_match_113_ok {h1 : qH} {d : Nat} {x7 : Int} {x8 : Int} {r1 : Nat} {r2 : Nat} {s3 : Int} {B : qB} {Q : qO → qB → Prop} (hd : 1 ≤ d) (hS : SH B) (hr1 : ob 5 r1) (hr2 : ob 1 r2) (w : c_P_match_113 h1 d x7 x8 r1 r2 s3 B Q) : qY h1 (d + 1) n_P_match 113 [some (.ref 0), none, none, none, none, none, none, some (iv x7), some (iv x8)] [iv s3, .ref r2, .ref r1, .ref 102] B Q := by
  unfold c_P_match_113 at w
  refine y_virt (k' := n_Wa_prepare) (n := 0) (as := [.ref r1, .ref r2, iv s3]) (r := []) (ck_at dt_P_match 56 rfl) own_P_match (cm_at 141 rfl) vk_Wa_prepare rfl nl_Wa_prepare rfl rfl rfl rfl ⟨(SH.o hS ⟨by decide, by decide, by decide⟩), ?_⟩
  exact w.mono (Nat.le_refl _) (fun o B' ⟨ho, hS', w⟩ => Or.inl ⟨none, ho, y_wk (c_P_match_116_ok (by omega) hS' w) ⟨rfl, ⟨rfl, ⟨rfl, trivial⟩⟩⟩⟩)
def c_P_match_94 (h1 : qH) (d : Nat) (x3 : Int) (a5 : Nat) (a6 : Nat) (x7 : Int) (s0 : Int) (B : qB) (Q : qO → qB → Prop) : Prop := R32 x3 ∧ (¬ x3 = 0 → c_P_match_113 h1 d x7 s0 a5 a6 0 B Q) ∧ (x3 = 0 → c_P_match_113 h1 d x7 s0 a5 a6 1 B Q)
theorem c_P_match_94_ok {h1 : qH} {d : Nat} {x3 : Int} {a5 : Nat} {a6 : Nat} {x7 : Int} {s0 : Int} {B : qB} {Q : qO → qB → Prop} (hd : 1 ≤ d) (hS : SH B) (ha5 : ob 5 a5) (ha6 : ob 1 a6) (w : c_P_match_94 h1 d x3 a5 a6 x7 s0 B Q) : qY h1 (d + 1) n_P_match 94 [some (.ref 0), none, none, some (iv x3), none, some (.ref a5), some (.ref a6), some (iv x7), none] [iv s0] B Q := by
  unfold c_P_match_94 at w
  obtain ⟨p1, w⟩ := w
  refine y_st1 (ok := q_isI) (n := 8) (L' := [some (.ref 0), none, none, some (iv x3), none, some (.ref a5), some (.ref a6), some (iv x7), some (iv s0)]) (ck_at dt_P_match 46 rfl) rfl (fun _ => rfl) (fun _ _ => rfl) rfl nl_P_match (by decide) rfl rfl ?_
  refine y_ldk (ok := q_isA) (n := 0) (ck_at dt_P_match 47 rfl) rfl rfl (fun _ => rfl) rfl rfl ?_
  refine y_getF (r := 102) (K := 10) (j := 6) (a := 0) (ck_at dt_P_match 48 rfl) own_P_match (cf_at 59 rfl) rfl rfl ⟨(SH.o hS ⟨by decide, by decide, by decide⟩), ?_⟩
  refine y_ldk (ok := q_isA) (n := 5) (ck_at dt_P_match 49 rfl) rfl rfl (fun _ => rfl) rfl rfl ?_
  refine y_ldk (ok := q_isA) (n := 6) (ck_at dt_P_match 50 rfl) rfl rfl (fun _ => rfl) rfl rfl ?_
  refine y_ldk (ok := q_isI) (n := 3) (ck_at dt_P_match 51 rfl) rfl rfl (fun _ => rfl) rfl rfl ?_
  refine y_ifz (t := 112) (ck_at dt_P_match 52 rfl) rfl p1 ?_ ?_
  · intro q; have w := w.1 q
    refine y_op (ck_at dt_P_match 55 rfl) rfl (o_const _) ?_
    exact y_wk (c_P_match_113_ok (by omega) hS ha5 ha6 w) ⟨rfl, ⟨rfl, ⟨rfl, trivial⟩⟩⟩
  · intro q; have w := w.2 q
    refine y_op (ck_at dt_P_match 53 rfl) rfl (o_const _) ?_
    refine y_goto (t := 113) (ck_at dt_P_match 54 rfl) rfl ?_
    exact y_wk (c_P_match_113_ok (by omega) hS ha5 ha6 w) ⟨rfl, ⟨rfl, ⟨rfl, trivial⟩⟩⟩
def c_P_match_77 (h1 : qH) (d : Nat) (x3 : Int) (a5 : Nat) (a6 : Nat) (s0 : Int) (B : qB) (Q : qO → qB → Prop) : Prop := R32 x3 ∧ (¬ x3 = 2 → c_P_match_94 h1 d x3 a5 a6 s0 s0 B Q) ∧ (x3 = 2 → c_P_match_94 h1 d x3 a5 a6 s0 (B a6 1) B Q)
theorem c_P_match_77_ok {h1 : qH} {d : Nat} {x3 : Int} {a5 : Nat} {a6 : Nat} {s0 : Int} {B : qB} {Q : qO → qB → Prop} (hd : 1 ≤ d) (hS : SH B) (ha5 : ob 5 a5) (ha6 : ob 1 a6) (w : c_P_match_77 h1 d x3 a5 a6 s0 B Q) : qY h1 (d + 1) n_P_match 77 [some (.ref 0), none, none, some (iv x3), none, some (.ref a5), some (.ref a6), none, none] [iv s0] B Q := by
  unfold c_P_match_77 at w
  obtain ⟨p1, w⟩ := w
  refine y_st1 (ok := q_isI) (n := 7) (L' := [some (.ref 0), none, none, some (iv x3), none, some (.ref a5), some (.ref a6), some (iv s0), none]) (ck_at dt_P_match 38 rfl) rfl (fun _ => rfl) (fun _ _ => rfl) rfl nl_P_match (by decide) rfl rfl ?_
  refine y_ldk (ok := q_isI) (n := 3) (ck_at dt_P_match 39 rfl) rfl rfl (fun _ => rfl) rfl rfl ?_
  refine y_op (ck_at dt_P_match 40 rfl) rfl (o_const _) ?_
  refine y_icmp (t := 92) (ck_at dt_P_match 41 rfl) rfl p1 ⟨by decide, by decide⟩ ?_ ?_
  · intro q; have w := w.1 q
    refine y_ldk (ok := q_isI) (n := 7) (ck_at dt_P_match 45 rfl) rfl rfl (fun _ => rfl) rfl rfl ?_
    exact y_wk (c_P_match_94_ok (by omega) hS ha5 ha6 w) ⟨rfl, ⟨rfl, ⟨rfl, ⟨rfl, ⟨rfl, trivial⟩⟩⟩⟩⟩
  · intro q; have w := w.2 q
    refine y_ldk (ok := q_isA) (n := 6) (ck_at dt_P_match 42 rfl) rfl rfl (fun _ => rfl) rfl rfl ?_
    refine y_virtP (k' := n_By_size) (n := 0) (as := []) (r := []) (ck_at dt_P_match 43 rfl) own_P_match (cm_at 128 rfl) vk_By_size rfl nl_By_size rfl rfl rfl rfl (SH.o hS ha6) (Y_By_size (by omega) hS ha6 ⟨rfl, rfl⟩) ?_
    refine y_goto (t := 94) (ck_at dt_P_match 44 rfl) rfl ?_
    exact y_wk (c_P_match_94_ok (by omega) hS ha5 ha6 w) ⟨rfl, ⟨rfl, ⟨rfl, ⟨rfl, ⟨rfl, trivial⟩⟩⟩⟩⟩
def c_P_match_67 (h1 : qH) (d : Nat) (x3 : Int) (x4 : Int) (a5 : Nat) (a6 : Nat) (B : qB) (Q : qO → qB → Prop) : Prop := R32 x3 ∧ (¬ x3 = 0 → c_P_match_77 h1 d x3 a5 a6 x4 B Q) ∧ (x3 = 0 → c_P_match_77 h1 d x3 a5 a6 0 B Q)
theorem c_P_match_67_ok {h1 : qH} {d : Nat} {x3 : Int} {x4 : Int} {a5 : Nat} {a6 : Nat} {B : qB} {Q : qO → qB → Prop} (hd : 1 ≤ d) (hS : SH B) (ha5 : ob 5 a5) (ha6 : ob 1 a6) (w : c_P_match_67 h1 d x3 x4 a5 a6 B Q) : qY h1 (d + 1) n_P_match 67 [some (.ref 0), none, none, some (iv x3), some (iv x4), some (.ref a5), some (.ref a6), none, none] [] B Q := by
  unfold c_P_match_67 at w
  obtain ⟨p1, w⟩ := w
  refine y_ldk (ok := q_isI) (n := 3) (ck_at dt_P_match 33 rfl) rfl rfl (fun _ => rfl) rfl rfl ?_
  refine y_ifz (t := 75) (ck_at dt_P_match 34 rfl) rfl p1 ?_ ?_
  · intro q; have w := w.1 q
    refine y_ldk (ok := q_isI) (n := 4) (ck_at dt_P_match 37 rfl) rfl rfl (fun _ => rfl) rfl rfl ?_
    exact y_wk (c_P_match_77_ok (by omega) hS ha5 ha6 w) ⟨rfl, ⟨rfl, ⟨rfl, ⟨rfl, trivial⟩⟩⟩⟩
  · intro q; have w := w.2 q
    refine y_op (ck_at dt_P_match 35 rfl) rfl (o_const _) ?_
    refine y_goto (t := 77) (ck_at dt_P_match 36 rfl) rfl ?_
    exact y_wk (c_P_match_77_ok (by omega) hS ha5 ha6 w) ⟨rfl, ⟨rfl, ⟨rfl, ⟨rfl, trivial⟩⟩⟩⟩
def c_P_match_38 (h1 : qH) (d : Nat) (x3 : Int) (x4 : Int) (a5 : Nat) (a6 : Nat) (B : qB) (Q : qO → qB → Prop) : Prop := R32 x3 ∧ (x3 = 0 → c_P_match_67 h1 d x3 x4 a5 a6 B Q) ∧ (¬ x3 = 0 → R32 x4 ∧ (x4 < 0 → (B 2000000000 (-1) = 0 ∧ 0 ≤ B 2000000000 0 ∧ 0 ≤ B 2000000000 1) ∧ Q (.inr "java/lang/IndexOutOfBoundsException") (thC B)) ∧ (x4 ≥ 0 → R32 (B a6 1) ∧ (x4 ≤ B a6 1 → c_P_match_67 h1 d x3 x4 a5 a6 B Q) ∧ (x4 > B a6 1 → (B 2000000000 (-1) = 0 ∧ 0 ≤ B 2000000000 0 ∧ 0 ≤ B 2000000000 1) ∧ Q (.inr "java/lang/IndexOutOfBoundsException") (thC B))))
theorem c_P_match_38_ok {h1 : qH} {d : Nat} {x3 : Int} {x4 : Int} {a5 : Nat} {a6 : Nat} {B : qB} {Q : qO → qB → Prop} (hd : 1 ≤ d) (hS : SH B) (ha5 : ob 5 a5) (ha6 : ob 1 a6) (w : c_P_match_38 h1 d x3 x4 a5 a6 B Q) : qY h1 (d + 1) n_P_match 38 [some (.ref 0), none, none, some (iv x3), some (iv x4), some (.ref a5), some (.ref a6), none, none] [] B Q := by
  unfold c_P_match_38 at w
  obtain ⟨p1, w⟩ := w
  refine y_ldk (ok := q_isI) (n := 3) (ck_at dt_P_match 20 rfl) rfl rfl (fun _ => rfl) rfl rfl ?_
  refine y_ifz (t := 67) (ck_at dt_P_match 21 rfl) rfl p1 ?_ ?_
  · intro q; have w := w.1 q
    exact y_wk (c_P_match_67_ok (by omega) hS ha5 ha6 w) ⟨rfl, ⟨rfl, ⟨rfl, ⟨rfl, ⟨rfl, trivial⟩⟩⟩⟩⟩
  · intro q; have w := w.2 q
    obtain ⟨p2, w⟩ := w
    refine y_ldk (ok := q_isI) (n := 4) (ck_at dt_P_match 22 rfl) rfl rfl (fun _ => rfl) rfl rfl ?_
    refine y_ifz (t := 57) (ck_at dt_P_match 23 rfl) rfl p2 ?_ ?_
    · intro q; have w := w.1 q
      exact y_throw (st := []) (E := "java/lang/IndexOutOfBoundsException") (ck_at dt_P_match 28 rfl) (mem_97 own_P_match) (th_P_match_57 []) w
    · intro q; have w := w.2 q
      obtain ⟨p3, w⟩ := w
      refine y_ldk (ok := q_isI) (n := 4) (ck_at dt_P_match 24 rfl) rfl rfl (fun _ => rfl) rfl rfl ?_
      refine y_ldk (ok := q_isA) (n := 6) (ck_at dt_P_match 25 rfl) rfl rfl (fun _ => rfl) rfl rfl ?_
      refine y_virtP (k' := n_By_size) (n := 0) (as := []) (r := [iv x4]) (ck_at dt_P_match 26 rfl) own_P_match (cm_at 128 rfl) vk_By_size rfl nl_By_size rfl rfl rfl rfl (SH.o hS ha6) (Y_By_size (by omega) hS ha6 ⟨rfl, rfl⟩) ?_
      refine y_icmp (t := 67) (ck_at dt_P_match 27 rfl) rfl p2 p3 ?_ ?_
      · intro q; have w := w.1 q
        exact y_wk (c_P_match_67_ok (by omega) hS ha5 ha6 w) ⟨rfl, ⟨rfl, ⟨rfl, ⟨rfl, ⟨rfl, trivial⟩⟩⟩⟩⟩
      · intro q; have w := w.2 q
        exact y_throw (st := []) (E := "java/lang/IndexOutOfBoundsException") (ck_at dt_P_match 28 rfl) (mem_97 own_P_match) (th_P_match_57 []) w
def c_P_match_12 (h1 : qH) (d : Nat) (x3 : Int) (x4 : Int) (a5 : Nat) (r0 : Nat) (B : qB) (Q : qO → qB → Prop) : Prop := R32 x3 ∧ (x3 < 0 → (B 2000000000 (-1) = 0 ∧ 0 ≤ B 2000000000 0 ∧ 0 ≤ B 2000000000 1) ∧ Q (.inr "java/lang/IllegalArgumentException") (thC B)) ∧ (x3 ≥ 0 → (x3 ≤ 2 → qY h1 d n_P_needPattern 0 [some (.ref a5)] [] B (fun o B' => (o = .inl none ∧ SH B' ∧ c_P_match_38 h1 d x3 x4 a5 r0 B' Q) ∨ ∃ E, o = .inr E ∧ Q (.inr E) B')) ∧ (x3 > 2 → (B 2000000000 (-1) = 0 ∧ 0 ≤ B 2000000000 0 ∧ 0 ≤ B 2000000000 1) ∧ Q (.inr "java/lang/IllegalArgumentException") (thC B)))
theorem c_P_match_12_ok {h1 : qH} {d : Nat} {x3 : Int} {x4 : Int} {a5 : Nat} {r0 : Nat} {B : qB} {Q : qO → qB → Prop} (hd : 1 ≤ d) (hS : SH B) (ha5 : ob 5 a5) (hr0 : ob 1 r0) (w : c_P_match_12 h1 d x3 x4 a5 r0 B Q) : qY h1 (d + 1) n_P_match 12 [some (.ref 0), none, none, some (iv x3), some (iv x4), some (.ref a5), none, none, none] [.ref r0] B Q := by
  unfold c_P_match_12 at w
  obtain ⟨p1, w⟩ := w
  refine y_st1 (ok := q_isA) (n := 6) (L' := [some (.ref 0), none, none, some (iv x3), some (iv x4), some (.ref a5), some (.ref r0), none, none]) (ck_at dt_P_match 7 rfl) rfl (fun _ => rfl) (fun _ _ => rfl) rfl nl_P_match (by decide) rfl rfl ?_
  refine y_ldk (ok := q_isI) (n := 3) (ck_at dt_P_match 8 rfl) rfl rfl (fun _ => rfl) rfl rfl ?_
  refine y_ifz (t := 23) (ck_at dt_P_match 9 rfl) rfl p1 ?_ ?_
  · intro q; have w := w.1 q
    exact y_throw (st := []) (E := "java/lang/IllegalArgumentException") (ck_at dt_P_match 13 rfl) (mem_110 own_P_match) (th_P_match_23 []) w
  · intro q; have w := w.2 q
    refine y_ldk (ok := q_isI) (n := 3) (ck_at dt_P_match 10 rfl) rfl rfl (fun _ => rfl) rfl rfl ?_
    refine y_op (ck_at dt_P_match 11 rfl) rfl (o_const _) ?_
    refine y_icmp (t := 33) (ck_at dt_P_match 12 rfl) rfl p1 ⟨by decide, by decide⟩ ?_ ?_
    · intro q; have w := w.1 q
      refine y_ldk (ok := q_isA) (n := 5) (ck_at dt_P_match 18 rfl) rfl rfl (fun _ => rfl) rfl rfl ?_
      refine y_stat (k' := n_P_needPattern) (n := 0) (as := [.ref a5]) (r := []) (ck_at dt_P_match 19 rfl) own_P_match (cm_at 140 rfl) (cs_at 30 rfl) vk_P_needPattern rfl nl_P_needPattern rfl rfl rfl rfl ?_
      exact w.mono (Nat.le_refl _) (fun o B' w => w.elim (fun ⟨ho, hS', w⟩ => Or.inl ⟨none, ho, y_wk (c_P_match_38_ok (by omega) hS' ha5 hr0 w) ⟨rfl, ⟨rfl, ⟨rfl, ⟨rfl, ⟨rfl, trivial⟩⟩⟩⟩⟩⟩) Or.inr)
    · intro q; have w := w.2 q
      exact y_throw (st := []) (E := "java/lang/IllegalArgumentException") (ck_at dt_P_match 13 rfl) (mem_110 own_P_match) (th_P_match_23 []) w
def c_P_match_5 (h1 : qH) (d : Nat) (x2 : Int) (x3 : Int) (x4 : Int) (r0 : Nat) (B : qB) (Q : qO → qB → Prop) : Prop := qY h1 d n_P_textAt 0 [some (.ref 0), some (iv x2)] [] B (fun o B' => (∃ v : Nat, o = .inl (some (.ref v)) ∧ ob 1 v ∧ SH B' ∧ c_P_match_12 h1 d x3 x4 r0 v B' Q) ∨ ∃ E, o = .inr E ∧ Q (.inr E) B')
theorem c_P_match_5_ok {h1 : qH} {d : Nat} {x2 : Int} {x3 : Int} {x4 : Int} {r0 : Nat} {B : qB} {Q : qO → qB → Prop} (hd : 1 ≤ d) (hS : SH B) (hr0 : ob 5 r0) (w : c_P_match_5 h1 d x2 x3 x4 r0 B Q) : qY h1 (d + 1) n_P_match 5 [some (.ref 0), none, some (iv x2), some (iv x3), some (iv x4), none, none, none, none] [.ref r0] B Q := by
  unfold c_P_match_5 at w
  refine y_st1 (ok := q_isA) (n := 5) (L' := [some (.ref 0), none, some (iv x2), some (iv x3), some (iv x4), some (.ref r0), none, none, none]) (ck_at dt_P_match 3 rfl) rfl (fun _ => rfl) (fun _ _ => rfl) rfl nl_P_match (by decide) rfl rfl ?_
  refine y_ldk (ok := q_isA) (n := 0) (ck_at dt_P_match 4 rfl) rfl rfl (fun _ => rfl) rfl rfl ?_
  refine y_ldk (ok := q_isI) (n := 2) (ck_at dt_P_match 5 rfl) rfl rfl (fun _ => rfl) rfl rfl ?_
  refine y_virt (k' := n_P_textAt) (n := 0) (as := [iv x2]) (r := []) (ck_at dt_P_match 6 rfl) own_P_match (cm_at 138 rfl) vk_P_textAt rfl nl_P_textAt rfl rfl rfl rfl ⟨(SH.o hS ⟨by decide, by decide, by decide⟩), ?_⟩
  exact w.mono (Nat.le_refl _) (fun o B' w => w.elim (fun ⟨v, ho, hov, hS', w⟩ => Or.inl ⟨some (.ref v), ho, y_wk (c_P_match_12_ok (by omega) hS' hr0 hov w) ⟨rfl, ⟨rfl, ⟨rfl, ⟨rfl, trivial⟩⟩⟩⟩⟩) Or.inr)
def c_P_match_0 (h1 : qH) (d : Nat) (x1 : Int) (x2 : Int) (x3 : Int) (x4 : Int) (B : qB) (Q : qO → qB → Prop) : Prop := qY h1 d n_P_programAt 0 [some (.ref 0), some (iv x1)] [] B (fun o B' => (∃ v : Nat, o = .inl (some (.ref v)) ∧ ob 5 v ∧ SH B' ∧ c_P_match_5 h1 d x2 x3 x4 v B' Q) ∨ ∃ E, o = .inr E ∧ Q (.inr E) B')
theorem c_P_match_0_ok {h1 : qH} {d : Nat} {x1 : Int} {x2 : Int} {x3 : Int} {x4 : Int} {B : qB} {Q : qO → qB → Prop} (hd : 1 ≤ d) (hS : SH B) (w : c_P_match_0 h1 d x1 x2 x3 x4 B Q) : qY h1 (d + 1) n_P_match 0 [some (.ref 0), some (iv x1), some (iv x2), some (iv x3), some (iv x4), none, none, none, none] [] B Q := by
  unfold c_P_match_0 at w
  refine y_ldk (ok := q_isA) (n := 0) (ck_at dt_P_match 0 rfl) rfl rfl (fun _ => rfl) rfl rfl ?_
  refine y_ldk (ok := q_isI) (n := 1) (ck_at dt_P_match 1 rfl) rfl rfl (fun _ => rfl) rfl rfl ?_
  refine y_virt (k' := n_P_programAt) (n := 0) (as := [iv x1]) (r := []) (ck_at dt_P_match 2 rfl) own_P_match (cm_at 131 rfl) vk_P_programAt rfl nl_P_programAt rfl rfl rfl rfl ⟨(SH.o hS ⟨by decide, by decide, by decide⟩), ?_⟩
  exact w.mono (Nat.le_refl _) (fun o B' w => w.elim (fun ⟨v, ho, hov, hS', w⟩ => Or.inl ⟨some (.ref v), ho, y_wk (c_P_match_5_ok (by omega) hS' hov w) ⟨rfl, ⟨rfl, ⟨rfl, ⟨rfl, trivial⟩⟩⟩⟩⟩) Or.inr)
/-! PatternTrier.group(II)I -/
def t_P_group : List (Nat × Instr × Nat) := [(0, .iload_n 1, 1), (1, .ifCond .lt 9, 3), (4, .iload_n 1, 1), (5, .bipush 9, 2), (7, .if_icmp .le 13, 3), (10, .new 110, 3), (13, .dup, 1), (14, .ldc 186, 2), (16, .invokespecial 114, 3), (19, .athrow, 1), (20, .iload_n 2, 1), (21, .invokestatic 188, 3), (24, .iconst 2, 1), (25, .iload_n 1, 1), (26, .imul, 1), (27, .iload_n 2, 1), (28, .iadd, 1), (29, .istore_n 3, 1), (30, .iload_n 3, 1), (31, .ifCond .lt 21, 3), (34, .iload_n 3, 1), (35, .aload_n 0, 1), (36, .getfield 25, 3), (39, .arraylength, 1), (40, .if_icmp .ge 12, 3), (43, .aload_n 0, 1), (44, .getfield 25, 3), (47, .iload_n 3, 1), (48, .iaload, 1), (49, .goto 4, 3), (52, .iconst (-1), 1), (53, .ireturn, 1)]
set_option maxRecDepth 100000 in
theorem dt_P_group : q_ck n_P_group t_P_group = true := by decide +kernel
set_option maxRecDepth 100000 in
theorem th_P_group_10 (st : List Value) : q_throw (q_ms n_P_group).2.1 (q_ms n_P_group).2.2.1 10 (.new 110) [] = some "java/lang/IllegalArgumentException" := by decide +kernel
def c_P_group_24 (h1 : qH) (d : Nat) (x1 : Int) (x2 : Int) (B : qB) (Q : qO → qB → Prop) : Prop := R32 ((2 * x1) + x2) ∧ ((2 * x1) + x2 < 0 → Q (.inl (some (iv (-1)))) B) ∧ ((2 * x1) + x2 ≥ 0 → ((2 * x1) + x2 ≥ 20 → Q (.inl (some (iv (-1)))) B) ∧ ((2 * x1) + x2 < 20 → 0 ≤ (2 * x1) + x2 ∧ (2 * x1) + x2 < 20 ∧ Q (.inl (some (iv (B 83 ((2 * x1) + x2))))) B))
theorem c_P_group_24_ok {h1 : qH} {d : Nat} {x1 : Int} {x2 : Int} {B : qB} {Q : qO → qB → Prop} (hd : 0 ≤ d) (hS : SH B) (w : c_P_group_24 h1 d x1 x2 B Q) : qY h1 (d + 1) n_P_group 24 [some (.ref 0), some (iv x1), some (iv x2), none] [] B Q := by
  unfold c_P_group_24 at w
  obtain ⟨p1, w⟩ := w
  refine y_op (ck_at dt_P_group 12 rfl) rfl (o_const _) ?_
  refine y_ldk (ok := q_isI) (n := 1) (ck_at dt_P_group 13 rfl) rfl rfl (fun _ => rfl) rfl rfl ?_
  refine y_op (ck_at dt_P_group 14 rfl) rfl o_imul ?_
  refine y_ldk (ok := q_isI) (n := 2) (ck_at dt_P_group 15 rfl) rfl rfl (fun _ => rfl) rfl rfl ?_
  refine y_op (ck_at dt_P_group 16 rfl) rfl o_iadd ?_
  refine y_st1 (ok := q_isI) (n := 3) (L' := [some (.ref 0), some (iv x1), some (iv x2), some (iv ((2 * x1) + x2))]) (ck_at dt_P_group 17 rfl) rfl (fun _ => rfl) (fun _ _ => rfl) rfl nl_P_group (by decide) rfl rfl ?_
  refine y_ldk (ok := q_isI) (n := 3) (ck_at dt_P_group 18 rfl) rfl rfl (fun _ => rfl) rfl rfl ?_
  refine y_ifz (t := 52) (ck_at dt_P_group 19 rfl) rfl p1 ?_ ?_
  · intro q; have w := w.1 q
    refine y_op (ck_at dt_P_group 30 rfl) rfl (o_const _) ?_
    exact y_retI (ck_at dt_P_group 31 rfl) rt_P_group w
  · intro q; have w := w.2 q
    refine y_ldk (ok := q_isI) (n := 3) (ck_at dt_P_group 20 rfl) rfl rfl (fun _ => rfl) rfl rfl ?_
    refine y_ldk (ok := q_isA) (n := 0) (ck_at dt_P_group 21 rfl) rfl rfl (fun _ => rfl) rfl rfl ?_
    refine y_getF (r := 83) (K := 10) (j := 2) (a := 0) (ck_at dt_P_group 22 rfl) own_P_group (cf_at 52 rfl) rfl rfl ⟨(SH.o hS ⟨by decide, by decide, by decide⟩), ?_⟩
    refine y_alen (ck_at dt_P_group 23 rfl) ⟨1, 20, (SH.a (t := 1) (a := 83) (n := 20) hS ⟨by decide, by decide, by decide, by decide⟩), (by decide), ?_⟩
    refine y_icmp (t := 52) (ck_at dt_P_group 24 rfl) rfl p1 ⟨by decide, by decide⟩ ?_ ?_
    · intro q; have w := w.1 q
      refine y_op (ck_at dt_P_group 30 rfl) rfl (o_const _) ?_
      exact y_retI (ck_at dt_P_group 31 rfl) rt_P_group w
    · intro q; have w := w.2 q
      obtain ⟨p2, p3, w⟩ := w
      refine y_ldk (ok := q_isA) (n := 0) (ck_at dt_P_group 25 rfl) rfl rfl (fun _ => rfl) rfl rfl ?_
      refine y_getF (r := 83) (K := 10) (j := 2) (a := 0) (ck_at dt_P_group 26 rfl) own_P_group (cf_at 52 rfl) rfl rfl ⟨(SH.o hS ⟨by decide, by decide, by decide⟩), ?_⟩
      refine y_ldk (ok := q_isI) (n := 3) (ck_at dt_P_group 27 rfl) rfl rfl (fun _ => rfl) rfl rfl ?_
      refine y_iald (ck_at dt_P_group 28 rfl) ⟨20, (SH.a (t := 1) (a := 83) (n := 20) hS ⟨by decide, by decide, by decide, by decide⟩), (by decide), p2, p3, ?_⟩
      refine y_goto (t := 53) (ck_at dt_P_group 29 rfl) rfl ?_
      exact y_retI (ck_at dt_P_group 31 rfl) rt_P_group w
def c_P_group_0 (h1 : qH) (d : Nat) (x1 : Int) (x2 : Int) (B : qB) (Q : qO → qB → Prop) : Prop := R32 x1 ∧ (x1 < 0 → (B 2000000000 (-1) = 0 ∧ 0 ≤ B 2000000000 0 ∧ 0 ≤ B 2000000000 1) ∧ Q (.inr "java/lang/IllegalArgumentException") (thC B)) ∧ (x1 ≥ 0 → (x1 ≤ 9 → qY h1 d n_P_needPart 0 [some (iv x2)] [] B (fun o B' => (o = .inl none ∧ SH B' ∧ c_P_group_24 h1 d x1 x2 B' Q) ∨ ∃ E, o = .inr E ∧ Q (.inr E) B')) ∧ (x1 > 9 → (B 2000000000 (-1) = 0 ∧ 0 ≤ B 2000000000 0 ∧ 0 ≤ B 2000000000 1) ∧ Q (.inr "java/lang/IllegalArgumentException") (thC B)))
theorem c_P_group_0_ok {h1 : qH} {d : Nat} {x1 : Int} {x2 : Int} {B : qB} {Q : qO → qB → Prop} (hd : 0 ≤ d) (hS : SH B) (w : c_P_group_0 h1 d x1 x2 B Q) : qY h1 (d + 1) n_P_group 0 [some (.ref 0), some (iv x1), some (iv x2), none] [] B Q := by
  unfold c_P_group_0 at w
  obtain ⟨p1, w⟩ := w
  refine y_ldk (ok := q_isI) (n := 1) (ck_at dt_P_group 0 rfl) rfl rfl (fun _ => rfl) rfl rfl ?_
  refine y_ifz (t := 10) (ck_at dt_P_group 1 rfl) rfl p1 ?_ ?_
  · intro q; have w := w.1 q
    exact y_throw (st := []) (E := "java/lang/IllegalArgumentException") (ck_at dt_P_group 5 rfl) (mem_110 own_P_group) (th_P_group_10 []) w
  · intro q; have w := w.2 q
    refine y_ldk (ok := q_isI) (n := 1) (ck_at dt_P_group 2 rfl) rfl rfl (fun _ => rfl) rfl rfl ?_
    refine y_op (ck_at dt_P_group 3 rfl) rfl (o_bipush _ (by decide)) ?_
    refine y_icmp (t := 20) (ck_at dt_P_group 4 rfl) rfl p1 ⟨by decide, by decide⟩ ?_ ?_
    · intro q; have w := w.1 q
      refine y_ldk (ok := q_isI) (n := 2) (ck_at dt_P_group 10 rfl) rfl rfl (fun _ => rfl) rfl rfl ?_
      refine y_stat (k' := n_P_needPart) (n := 0) (as := [iv x2]) (r := []) (ck_at dt_P_group 11 rfl) own_P_group (cm_at 145 rfl) (cs_at 31 rfl) vk_P_needPart rfl nl_P_needPart rfl rfl rfl rfl ?_
      exact w.mono (Nat.le_refl _) (fun o B' w => w.elim (fun ⟨ho, hS', w⟩ => Or.inl ⟨none, ho, y_wk (c_P_group_24_ok (by omega) hS' w) ⟨rfl, ⟨rfl, ⟨rfl, trivial⟩⟩⟩⟩) Or.inr)
    · intro q; have w := w.2 q
      exact y_throw (st := []) (E := "java/lang/IllegalArgumentException") (ck_at dt_P_group 5 rfl) (mem_110 own_P_group) (th_P_group_10 []) w
/-! PatternTrier.found(II)I -/
def t_P_found : List (Nat × Instr × Nat) := [(0, .iload_n 2, 1), (1, .invokestatic 188, 3), (4, .iload_n 1, 1), (5, .ifCond .lt 14, 3), (8, .iload_n 1, 1), (9, .aload_n 0, 1), (10, .getfield 82, 3), (13, .invokevirtual 204, 3), (16, .if_icmp .lt 13, 3), (19, .new 97, 3), (22, .dup, 1), (23, .ldc 207, 2), (25, .invokespecial 101, 3), (28, .athrow, 1), (29, .aload_n 0, 1), (30, .getfield 82, 3), (33, .iload_n 1, 1), (34, .iload_n 2, 1), (35, .invokevirtual 209, 3), (38, .ireturn, 1)]
set_option maxRecDepth 100000 in
theorem dt_P_found : q_ck n_P_found t_P_found = true := by decide +kernel
set_option maxRecDepth 100000 in
theorem th_P_found_19 (st : List Value) : q_throw (q_ms n_P_found).2.1 (q_ms n_P_found).2.2.1 19 (.new 97) [] = some "java/lang/IndexOutOfBoundsException" := by decide +kernel
def c_P_found_4 (h1 : qH) (d : Nat) (x1 : Int) (x2 : Int) (B : qB) (Q : qO → qB → Prop) : Prop := R32 x1 ∧ (x1 < 0 → (B 2000000000 (-1) = 0 ∧ 0 ≤ B 2000000000 0 ∧ 0 ≤ B 2000000000 1) ∧ Q (.inr "java/lang/IndexOutOfBoundsException") (thC B)) ∧ (x1 ≥ 0 → ob 3 ((B 0 10).toNat) ∧ R32 (B ((B 0 10).toNat) 1) ∧ (x1 < B ((B 0 10).toNat) 1 → 0 ≤ 2 * x1 + x2 ∧ 2 * x1 + x2 < 602 ∧ Q (.inl (some (iv (B (((B 0 10).toNat) + 1) (2 * x1 + x2))))) B) ∧ (x1 ≥ B ((B 0 10).toNat) 1 → (B 2000000000 (-1) = 0 ∧ 0 ≤ B 2000000000 0 ∧ 0 ≤ B 2000000000 1) ∧ Q (.inr "java/lang/IndexOutOfBoundsException") (thC B)))
theorem c_P_found_4_ok {h1 : qH} {d : Nat} {x1 : Int} {x2 : Int} {B : qB} {Q : qO → qB → Prop} (hd : 2 ≤ d) (hS : SH B) (w : c_P_found_4 h1 d x1 x2 B Q) : qY h1 (d + 1) n_P_found 4 [some (.ref 0), some (iv x1), some (iv x2)] [] B Q := by
  unfold c_P_found_4 at w
  obtain ⟨p1, w⟩ := w
  refine y_ldk (ok := q_isI) (n := 1) (ck_at dt_P_found 2 rfl) rfl rfl (fun _ => rfl) rfl rfl ?_
  refine y_ifz (t := 19) (ck_at dt_P_found 3 rfl) rfl p1 ?_ ?_
  · intro q; have w := w.1 q
    exact y_throw (st := []) (E := "java/lang/IndexOutOfBoundsException") (ck_at dt_P_found 9 rfl) (mem_97 own_P_found) (th_P_found_19 []) w
  · intro q; have w := w.2 q
    obtain ⟨p2, p3, w⟩ := w
    refine y_ldk (ok := q_isI) (n := 1) (ck_at dt_P_found 4 rfl) rfl rfl (fun _ => rfl) rfl rfl ?_
    refine y_ldk (ok := q_isA) (n := 0) (ck_at dt_P_found 5 rfl) rfl rfl (fun _ => rfl) rfl rfl ?_
    refine y_getD (K := 10) (j := 10) (a := 0) (ck_at dt_P_found 6 rfl) own_P_found (cf_at 60 rfl) rfl rfl rfl ⟨(SH.o hS ⟨by decide, by decide, by decide⟩), ?_⟩
    refine y_virtP (k' := n_Fo_amount) (n := 0) (as := []) (r := [iv x1]) (ck_at dt_P_found 7 rfl) own_P_found (cm_at 150 rfl) vk_Fo_amount rfl nl_Fo_amount rfl rfl rfl rfl (SH.o hS p2) (Y_Fo_amount (by omega) hS p2 ⟨rfl, rfl⟩) ?_
    refine y_icmp (t := 29) (ck_at dt_P_found 8 rfl) rfl p1 p3 ?_ ?_
    · intro q; have w := w.1 q
      obtain ⟨p4, p5, w⟩ := w
      refine y_ldk (ok := q_isA) (n := 0) (ck_at dt_P_found 14 rfl) rfl rfl (fun _ => rfl) rfl rfl ?_
      refine y_getD (K := 10) (j := 10) (a := 0) (ck_at dt_P_found 15 rfl) own_P_found (cf_at 60 rfl) rfl rfl rfl ⟨(SH.o hS ⟨by decide, by decide, by decide⟩), ?_⟩
      refine y_ldk (ok := q_isI) (n := 1) (ck_at dt_P_found 16 rfl) rfl rfl (fun _ => rfl) rfl rfl ?_
      refine y_ldk (ok := q_isI) (n := 2) (ck_at dt_P_found 17 rfl) rfl rfl (fun _ => rfl) rfl rfl ?_
      refine y_virtP (k' := n_Fo_bound) (n := 0) (as := [iv x1, iv x2]) (r := []) (ck_at dt_P_found 18 rfl) own_P_found (cm_at 151 rfl) vk_Fo_bound rfl nl_Fo_bound rfl rfl rfl rfl (SH.o hS p2) (Y_Fo_bound (by omega) hS p2 p4 p5 ⟨rfl, rfl⟩) ?_
      exact y_retI (ck_at dt_P_found 19 rfl) rt_P_found w
    · intro q; have w := w.2 q
      exact y_throw (st := []) (E := "java/lang/IndexOutOfBoundsException") (ck_at dt_P_found 9 rfl) (mem_97 own_P_found) (th_P_found_19 []) w
def c_P_found_0 (h1 : qH) (d : Nat) (x1 : Int) (x2 : Int) (B : qB) (Q : qO → qB → Prop) : Prop := qY h1 d n_P_needPart 0 [some (iv x2)] [] B (fun o B' => (o = .inl none ∧ SH B' ∧ c_P_found_4 h1 d x1 x2 B' Q) ∨ ∃ E, o = .inr E ∧ Q (.inr E) B')
theorem c_P_found_0_ok {h1 : qH} {d : Nat} {x1 : Int} {x2 : Int} {B : qB} {Q : qO → qB → Prop} (hd : 2 ≤ d) (hS : SH B) (w : c_P_found_0 h1 d x1 x2 B Q) : qY h1 (d + 1) n_P_found 0 [some (.ref 0), some (iv x1), some (iv x2)] [] B Q := by
  unfold c_P_found_0 at w
  refine y_ldk (ok := q_isI) (n := 2) (ck_at dt_P_found 0 rfl) rfl rfl (fun _ => rfl) rfl rfl ?_
  refine y_stat (k' := n_P_needPart) (n := 0) (as := [iv x2]) (r := []) (ck_at dt_P_found 1 rfl) own_P_found (cm_at 145 rfl) (cs_at 31 rfl) vk_P_needPart rfl nl_P_needPart rfl rfl rfl rfl ?_
  exact w.mono (Nat.le_refl _) (fun o B' w => w.elim (fun ⟨ho, hS', w⟩ => Or.inl ⟨none, ho, y_wk (c_P_found_4_ok (by omega) hS' w) ⟨rfl, ⟨rfl, ⟨rfl, trivial⟩⟩⟩⟩) Or.inr)
/-! PatternTrier.word(II)J -/
def t_P_word : List (Nat × Instr × Nat) := [(0, .aload_n 0, 1), (1, .iload_n 1, 1), (2, .invokevirtual 153, 3), (5, .astore_n 3, 1), (6, .iload_n 2, 1), (7, .ifCond .lt 11, 3), (10, .iload_n 2, 1), (11, .aload_n 3, 1), (12, .invokevirtual 107, 3), (15, .if_icmp .lt 13, 3), (18, .new 97, 3), (21, .dup, 1), (22, .ldc 246, 2), (24, .invokespecial 101, 3), (27, .athrow, 1), (28, .lconst 0, 1), (29, .lstore 4, 2), (31, .iconst 0, 1), (32, .istore 6, 2), (34, .iload 6, 2), (36, .bipush 8, 2), (38, .if_icmp .ge 30, 3), (41, .lload 4, 2), (43, .bipush 8, 2), (45, .lshl, 1), (46, .iconst 0, 1), (47, .aload_n 3, 1), (48, .iload_n 2, 1), (49, .iload 6, 2), (51, .iadd, 1), (52, .invokevirtual 240, 3), (55, .invokestatic 248, 3), (58, .i2l, 1), (59, .lor, 1), (60, .lstore 4, 2), (62, .iinc 6 1, 3), (65, .goto (-31), 3), (68, .lload 4, 2), (70, .lreturn, 1)]
set_option maxRecDepth 100000 in
theorem dt_P_word : q_ck n_P_word t_P_word = true := by decide +kernel
set_option maxRecDepth 100000 in
theorem th_P_word_18 (st : List Value) : q_throw (q_ms n_P_word).2.1 (q_ms n_P_word).2.2.1 18 (.new 97) [] = some "java/lang/IndexOutOfBoundsException" := by decide +kernel
def c_P_word_34 (h1 : qH) (d : Nat) (x2 : Int) (a3 : Nat) (x4 : Int) (x6 : Int) (B : qB) (Q : qO → qB → Prop) : Prop := R32 x6 ∧ (x6 ≥ 8 → Q (.inl (some (wv x4))) B) ∧ (x6 < 8 → bOK B a3 ∧ R32 (x2 + x6) ∧ R32 (byA B a3 (x2 + x6)) ∧ R32 (max 0 (byA B a3 (x2 + x6))) ∧ qY h1 (d + 1) n_P_word 34 [none, none, some (iv x2), some (.ref a3), some (wv (lOr (lShl x4 8) (max 0 (byA B a3 (x2 + x6))))), none, some (iv (x6 + 1))] [] B Q)
theorem c_P_word_34_ok {h1 : qH} {d : Nat} {x2 : Int} {a3 : Nat} {x4 : Int} {x6 : Int} {B : qB} {Q : qO → qB → Prop} (hd : 1 ≤ d) (hS : SH B) (ha3 : ob 1 a3) (w : c_P_word_34 h1 d x2 a3 x4 x6 B Q) : qY h1 (d + 1) n_P_word 34 [none, none, some (iv x2), some (.ref a3), some (wv x4), none, some (iv x6)] [] B Q := by
  unfold c_P_word_34 at w
  obtain ⟨p1, w⟩ := w
  refine y_ldk (ok := q_isI) (n := 6) (ck_at dt_P_word 19 rfl) rfl rfl (fun _ => rfl) rfl rfl ?_
  refine y_op (ck_at dt_P_word 20 rfl) rfl (o_bipush _ (by decide)) ?_
  refine y_icmp (t := 68) (ck_at dt_P_word 21 rfl) rfl p1 ⟨by decide, by decide⟩ ?_ ?_
  · intro q; have w := w.1 q
    refine y_ldk (ok := q_isL) (n := 4) (ck_at dt_P_word 37 rfl) rfl rfl (fun _ => rfl) rfl rfl ?_
    exact y_retL (ck_at dt_P_word 38 rfl) rt_P_word w
  · intro q; have w := w.2 q
    obtain ⟨p2, p3, p4, p5, w⟩ := w
    refine y_ldk (ok := q_isL) (n := 4) (ck_at dt_P_word 22 rfl) rfl rfl (fun _ => rfl) rfl rfl ?_
    refine y_op (ck_at dt_P_word 23 rfl) rfl (o_bipush _ (by decide)) ?_
    refine y_op (ck_at dt_P_word 24 rfl) rfl o_lshl ?_
    refine y_op (ck_at dt_P_word 25 rfl) rfl (o_const _) ?_
    refine y_ldk (ok := q_isA) (n := 3) (ck_at dt_P_word 26 rfl) rfl rfl (fun _ => rfl) rfl rfl ?_
    refine y_ldk (ok := q_isI) (n := 2) (ck_at dt_P_word 27 rfl) rfl rfl (fun _ => rfl) rfl rfl ?_
    refine y_ldk (ok := q_isI) (n := 6) (ck_at dt_P_word 28 rfl) rfl rfl (fun _ => rfl) rfl rfl ?_
    refine y_op (ck_at dt_P_word 29 rfl) rfl o_iadd ?_
    refine y_virtP (k' := n_By_at) (n := 0) (as := [iv (x2 + x6)]) (r := [iv 0, wv (lShl x4 8)]) (ck_at dt_P_word 30 rfl) own_P_word (cm_at 156 rfl) vk_By_at rfl nl_By_at rfl rfl rfl rfl (SH.o hS ha3) (Y_By_at (by omega) hS ha3 p2 p3 ⟨rfl, rfl⟩) ?_
    refine y_mm (b := true) (ck_at dt_P_word 31 rfl) own_P_word (by decide +kernel) rfl ⟨by decide, by decide⟩ p4 ?_
    rw [if_pos rfl]
    refine y_op (ck_at dt_P_word 32 rfl) rfl (o_i2l p5) ?_
    refine y_op (ck_at dt_P_word 33 rfl) rfl o_lor ?_
    refine y_st2 (n := 4) (L' := [none, none, some (iv x2), some (.ref a3), some (wv (lOr (lShl x4 8) (max 0 (byA B a3 (x2 + x6))))), none, some (iv x6)]) (ck_at dt_P_word 34 rfl) rfl (fun _ => rfl) (fun _ _ => rfl) rfl nl_P_word (by decide) rfl rfl ?_
    refine y_iinc (n := 6) (L' := [none, none, some (iv x2), some (.ref a3), some (wv (lOr (lShl x4 8) (max 0 (byA B a3 (x2 + x6))))), none, some (iv (x6 + 1))]) (ck_at dt_P_word 35 rfl) rfl nl_P_word (by decide) trivial rfl ?_
    refine y_goto (t := 34) (ck_at dt_P_word 36 rfl) rfl ?_
    exact y_wk w ⟨rfl, ⟨rfl, ⟨rfl, ⟨rfl, trivial⟩⟩⟩⟩
def c_P_word_5 (h1 : qH) (d : Nat) (x2 : Int) (r0 : Nat) (B : qB) (Q : qO → qB → Prop) : Prop := R32 x2 ∧ (x2 < 0 → (B 2000000000 (-1) = 0 ∧ 0 ≤ B 2000000000 0 ∧ 0 ≤ B 2000000000 1) ∧ Q (.inr "java/lang/IndexOutOfBoundsException") (thC B)) ∧ (x2 ≥ 0 → R32 (B r0 1) ∧ (x2 < B r0 1 → qY h1 (d + 1) n_P_word 34 [none, none, some (iv x2), some (.ref r0), some (wv 0), none, some (iv 0)] [] B Q) ∧ (x2 ≥ B r0 1 → (B 2000000000 (-1) = 0 ∧ 0 ≤ B 2000000000 0 ∧ 0 ≤ B 2000000000 1) ∧ Q (.inr "java/lang/IndexOutOfBoundsException") (thC B)))
theorem c_P_word_5_ok {h1 : qH} {d : Nat} {x2 : Int} {r0 : Nat} {B : qB} {Q : qO → qB → Prop} (hd : 1 ≤ d) (hS : SH B) (hr0 : ob 1 r0) (w : c_P_word_5 h1 d x2 r0 B Q) : qY h1 (d + 1) n_P_word 5 [none, none, some (iv x2), none, none, none, none] [.ref r0] B Q := by
  unfold c_P_word_5 at w
  obtain ⟨p1, w⟩ := w
  refine y_st1 (ok := q_isA) (n := 3) (L' := [none, none, some (iv x2), some (.ref r0), none, none, none]) (ck_at dt_P_word 3 rfl) rfl (fun _ => rfl) (fun _ _ => rfl) rfl nl_P_word (by decide) rfl rfl ?_
  refine y_ldk (ok := q_isI) (n := 2) (ck_at dt_P_word 4 rfl) rfl rfl (fun _ => rfl) rfl rfl ?_
  refine y_ifz (t := 18) (ck_at dt_P_word 5 rfl) rfl p1 ?_ ?_
  · intro q; have w := w.1 q
    exact y_throw (st := []) (E := "java/lang/IndexOutOfBoundsException") (ck_at dt_P_word 10 rfl) (mem_97 own_P_word) (th_P_word_18 []) w
  · intro q; have w := w.2 q
    obtain ⟨p2, w⟩ := w
    refine y_ldk (ok := q_isI) (n := 2) (ck_at dt_P_word 6 rfl) rfl rfl (fun _ => rfl) rfl rfl ?_
    refine y_ldk (ok := q_isA) (n := 3) (ck_at dt_P_word 7 rfl) rfl rfl (fun _ => rfl) rfl rfl ?_
    refine y_virtP (k' := n_By_size) (n := 0) (as := []) (r := [iv x2]) (ck_at dt_P_word 8 rfl) own_P_word (cm_at 128 rfl) vk_By_size rfl nl_By_size rfl rfl rfl rfl (SH.o hS hr0) (Y_By_size (by omega) hS hr0 ⟨rfl, rfl⟩) ?_
    refine y_icmp (t := 28) (ck_at dt_P_word 9 rfl) rfl p1 p2 ?_ ?_
    · intro q; have w := w.1 q
      refine y_op (ck_at dt_P_word 15 rfl) rfl o_lconst0 ?_
      refine y_st2 (n := 4) (L' := [none, none, some (iv x2), some (.ref r0), some (wv 0), none, none]) (ck_at dt_P_word 16 rfl) rfl (fun _ => rfl) (fun _ _ => rfl) rfl nl_P_word (by decide) rfl rfl ?_
      refine y_op (ck_at dt_P_word 17 rfl) rfl (o_const _) ?_
      refine y_st1 (ok := q_isI) (n := 6) (L' := [none, none, some (iv x2), some (.ref r0), some (wv 0), none, some (iv 0)]) (ck_at dt_P_word 18 rfl) rfl (fun _ => rfl) (fun _ _ => rfl) rfl nl_P_word (by decide) trivial rfl ?_
      exact y_wk w ⟨rfl, ⟨rfl, ⟨rfl, ⟨rfl, trivial⟩⟩⟩⟩
    · intro q; have w := w.2 q
      exact y_throw (st := []) (E := "java/lang/IndexOutOfBoundsException") (ck_at dt_P_word 10 rfl) (mem_97 own_P_word) (th_P_word_18 []) w
def c_P_word_0 (h1 : qH) (d : Nat) (x1 : Int) (x2 : Int) (B : qB) (Q : qO → qB → Prop) : Prop := qY h1 d n_P_textAt 0 [some (.ref 0), some (iv x1)] [] B (fun o B' => (∃ v : Nat, o = .inl (some (.ref v)) ∧ ob 1 v ∧ SH B' ∧ c_P_word_5 h1 d x2 v B' Q) ∨ ∃ E, o = .inr E ∧ Q (.inr E) B')
theorem c_P_word_0_ok {h1 : qH} {d : Nat} {x1 : Int} {x2 : Int} {B : qB} {Q : qO → qB → Prop} (hd : 1 ≤ d) (hS : SH B) (w : c_P_word_0 h1 d x1 x2 B Q) : qY h1 (d + 1) n_P_word 0 [some (.ref 0), some (iv x1), some (iv x2), none, none, none, none] [] B Q := by
  unfold c_P_word_0 at w
  refine y_ldk (ok := q_isA) (n := 0) (ck_at dt_P_word 0 rfl) rfl rfl (fun _ => rfl) rfl rfl ?_
  refine y_ldk (ok := q_isI) (n := 1) (ck_at dt_P_word 1 rfl) rfl rfl (fun _ => rfl) rfl rfl ?_
  refine y_virt (k' := n_P_textAt) (n := 0) (as := [iv x1]) (r := []) (ck_at dt_P_word 2 rfl) own_P_word (cm_at 138 rfl) vk_P_textAt rfl nl_P_textAt rfl rfl rfl rfl ⟨(SH.o hS ⟨by decide, by decide, by decide⟩), ?_⟩
  exact w.mono (Nat.le_refl _) (fun o B' w => w.elim (fun ⟨v, ho, hov, hS', w⟩ => Or.inl ⟨some (.ref v), ho, y_wk (c_P_word_5_ok (by omega) hS' hov w) ⟨rfl, trivial⟩⟩) Or.inr)
/-! PatternTrier.count(I)I -/
def t_P_count : List (Nat × Instr × Nat) := [(0, .iload_n 1, 1), (1, .ifCond .ne 11, 3), (4, .aload_n 0, 1), (5, .getfield 35, 3), (8, .invokevirtual 107, 3), (11, .ireturn, 1), (12, .iload_n 1, 1), (13, .iconst 1, 1), (14, .if_icmp .ne 8, 3), (17, .aload_n 0, 1), (18, .getfield 89, 3), (21, .ireturn, 1), (22, .iload_n 1, 1), (23, .iconst 2, 1), (24, .if_icmp .ne 11, 3), (27, .aload_n 0, 1), (28, .getfield 82, 3), (31, .invokevirtual 204, 3), (34, .ireturn, 1), (35, .iload_n 1, 1), (36, .bipush 10, 2), (38, .if_icmp .lt 21, 3), (41, .iload_n 1, 1), (42, .bipush 18, 2), (44, .if_icmp .ge 15, 3), (47, .aload_n 0, 1), (48, .iload_n 1, 1), (49, .bipush 10, 2), (51, .isub, 1), (52, .invokevirtual 122, 3), (55, .invokevirtual 150, 3), (58, .ireturn, 1), (59, .iload_n 1, 1), (60, .bipush 20, 2), (62, .if_icmp .lt 21, 3), (65, .iload_n 1, 1), (66, .bipush 24, 2), (68, .if_icmp .ge 15, 3), (71, .aload_n 0, 1), (72, .iload_n 1, 1), (73, .bipush 20, 2), (75, .isub, 1), (76, .invokevirtual 153, 3), (79, .invokevirtual 107, 3), (82, .ireturn, 1), (83, .iload_n 1, 1), (84, .bipush 30, 2), (86, .if_icmp .lt 21, 3), (89, .iload_n 1, 1), (90, .bipush 38, 2), (92, .if_icmp .ge 15, 3), (95, .aload_n 0, 1), (96, .iload_n 1, 1), (97, .bipush 30, 2), (99, .isub, 1), (100, .invokevirtual 122, 3), (103, .invokevirtual 253, 3), (106, .ireturn, 1), (107, .new 110, 3), (110, .dup, 1), (111, .ldc 254, 2), (113, .invokespecial 114, 3), (116, .athrow, 1)]
set_option maxRecDepth 100000 in
theorem dt_P_count : q_ck n_P_count t_P_count = true := by decide +kernel
set_option maxRecDepth 100000 in
theorem th_P_count_107 (st : List Value) : q_throw (q_ms n_P_count).2.1 (q_ms n_P_count).2.2.1 107 (.new 110) [] = some "java/lang/IllegalArgumentException" := by decide +kernel
def c_P_count_103 (h1 : qH) (d : Nat) (r0 : Nat) (B : qB) (Q : qO → qB → Prop) : Prop := Q (.inl (some (iv (B r0 11)))) B
theorem c_P_count_103_ok {h1 : qH} {d : Nat} {r0 : Nat} {B : qB} {Q : qO → qB → Prop} (hd : 1 ≤ d) (hS : SH B) (hr0 : ob 5 r0) (w : c_P_count_103 h1 d r0 B Q) : qY h1 (d + 1) n_P_count 103 [none, none] [.ref r0] B Q := by
  unfold c_P_count_103 at w
  refine y_virtP (k' := n_Pr_groups) (n := 0) (as := []) (r := []) (ck_at dt_P_count 56 rfl) own_P_count (cm_at 158 rfl) vk_Pr_groups rfl nl_Pr_groups rfl rfl rfl rfl (SH.o hS hr0) (Y_Pr_groups (by omega) hS hr0 ⟨rfl, rfl⟩) ?_
  exact y_retI (ck_at dt_P_count 57 rfl) rt_P_count w
def c_P_count_83 (h1 : qH) (d : Nat) (x1 : Int) (B : qB) (Q : qO → qB → Prop) : Prop := R32 x1 ∧ (x1 < 30 → (B 2000000000 (-1) = 0 ∧ 0 ≤ B 2000000000 0 ∧ 0 ≤ B 2000000000 1) ∧ Q (.inr "java/lang/IllegalArgumentException") (thC B)) ∧ (x1 ≥ 30 → (x1 ≥ 38 → (B 2000000000 (-1) = 0 ∧ 0 ≤ B 2000000000 0 ∧ 0 ≤ B 2000000000 1) ∧ Q (.inr "java/lang/IllegalArgumentException") (thC B)) ∧ (x1 < 38 → qY h1 d n_P_programAt 0 [some (.ref 0), some (iv (x1 - 30))] [] B (fun o B' => (∃ v : Nat, o = .inl (some (.ref v)) ∧ ob 5 v ∧ SH B' ∧ c_P_count_103 h1 d v B' Q) ∨ ∃ E, o = .inr E ∧ Q (.inr E) B')))
theorem c_P_count_83_ok {h1 : qH} {d : Nat} {x1 : Int} {B : qB} {Q : qO → qB → Prop} (hd : 1 ≤ d) (hS : SH B) (w : c_P_count_83 h1 d x1 B Q) : qY h1 (d + 1) n_P_count 83 [some (.ref 0), some (iv x1)] [] B Q := by
  unfold c_P_count_83 at w
  obtain ⟨p1, w⟩ := w
  refine y_ldk (ok := q_isI) (n := 1) (ck_at dt_P_count 45 rfl) rfl rfl (fun _ => rfl) rfl rfl ?_
  refine y_op (ck_at dt_P_count 46 rfl) rfl (o_bipush _ (by decide)) ?_
  refine y_icmp (t := 107) (ck_at dt_P_count 47 rfl) rfl p1 ⟨by decide, by decide⟩ ?_ ?_
  · intro q; have w := w.1 q
    exact y_throw (st := []) (E := "java/lang/IllegalArgumentException") (ck_at dt_P_count 58 rfl) (mem_110 own_P_count) (th_P_count_107 []) w
  · intro q; have w := w.2 q
    refine y_ldk (ok := q_isI) (n := 1) (ck_at dt_P_count 48 rfl) rfl rfl (fun _ => rfl) rfl rfl ?_
    refine y_op (ck_at dt_P_count 49 rfl) rfl (o_bipush _ (by decide)) ?_
    refine y_icmp (t := 107) (ck_at dt_P_count 50 rfl) rfl p1 ⟨by decide, by decide⟩ ?_ ?_
    · intro q; have w := w.1 q
      exact y_throw (st := []) (E := "java/lang/IllegalArgumentException") (ck_at dt_P_count 58 rfl) (mem_110 own_P_count) (th_P_count_107 []) w
    · intro q; have w := w.2 q
      refine y_ldk (ok := q_isA) (n := 0) (ck_at dt_P_count 51 rfl) rfl rfl (fun _ => rfl) rfl rfl ?_
      refine y_ldk (ok := q_isI) (n := 1) (ck_at dt_P_count 52 rfl) rfl rfl (fun _ => rfl) rfl rfl ?_
      refine y_op (ck_at dt_P_count 53 rfl) rfl (o_bipush _ (by decide)) ?_
      refine y_op (ck_at dt_P_count 54 rfl) rfl o_isub ?_
      refine y_virt (k' := n_P_programAt) (n := 0) (as := [iv (x1 - 30)]) (r := []) (ck_at dt_P_count 55 rfl) own_P_count (cm_at 131 rfl) vk_P_programAt rfl nl_P_programAt rfl rfl rfl rfl ⟨(SH.o hS ⟨by decide, by decide, by decide⟩), ?_⟩
      exact w.mono (Nat.le_refl _) (fun o B' w => w.elim (fun ⟨v, ho, hov, hS', w⟩ => Or.inl ⟨some (.ref v), ho, y_wk (c_P_count_103_ok (by omega) hS' hov w) trivial⟩) Or.inr)
def c_P_count_79 (h1 : qH) (d : Nat) (r0 : Nat) (B : qB) (Q : qO → qB → Prop) : Prop := Q (.inl (some (iv (B r0 1)))) B
theorem c_P_count_79_ok {h1 : qH} {d : Nat} {r0 : Nat} {B : qB} {Q : qO → qB → Prop} (hd : 1 ≤ d) (hS : SH B) (hr0 : ob 1 r0) (w : c_P_count_79 h1 d r0 B Q) : qY h1 (d + 1) n_P_count 79 [none, none] [.ref r0] B Q := by
  unfold c_P_count_79 at w
  refine y_virtP (k' := n_By_size) (n := 0) (as := []) (r := []) (ck_at dt_P_count 43 rfl) own_P_count (cm_at 128 rfl) vk_By_size rfl nl_By_size rfl rfl rfl rfl (SH.o hS hr0) (Y_By_size (by omega) hS hr0 ⟨rfl, rfl⟩) ?_
  exact y_retI (ck_at dt_P_count 44 rfl) rt_P_count w
def c_P_count_59 (h1 : qH) (d : Nat) (x1 : Int) (B : qB) (Q : qO → qB → Prop) : Prop := R32 x1 ∧ (x1 < 20 → c_P_count_83 h1 d x1 B Q) ∧ (x1 ≥ 20 → (x1 ≥ 24 → c_P_count_83 h1 d x1 B Q) ∧ (x1 < 24 → qY h1 d n_P_textAt 0 [some (.ref 0), some (iv (x1 - 20))] [] B (fun o B' => (∃ v : Nat, o = .inl (some (.ref v)) ∧ ob 1 v ∧ SH B' ∧ c_P_count_79 h1 d v B' Q) ∨ ∃ E, o = .inr E ∧ Q (.inr E) B')))
theorem c_P_count_59_ok {h1 : qH} {d : Nat} {x1 : Int} {B : qB} {Q : qO → qB → Prop} (hd : 1 ≤ d) (hS : SH B) (w : c_P_count_59 h1 d x1 B Q) : qY h1 (d + 1) n_P_count 59 [some (.ref 0), some (iv x1)] [] B Q := by
  unfold c_P_count_59 at w
  obtain ⟨p1, w⟩ := w
  refine y_ldk (ok := q_isI) (n := 1) (ck_at dt_P_count 32 rfl) rfl rfl (fun _ => rfl) rfl rfl ?_
  refine y_op (ck_at dt_P_count 33 rfl) rfl (o_bipush _ (by decide)) ?_
  refine y_icmp (t := 83) (ck_at dt_P_count 34 rfl) rfl p1 ⟨by decide, by decide⟩ ?_ ?_
  · intro q; have w := w.1 q
    exact y_wk (c_P_count_83_ok (by omega) hS w) ⟨rfl, ⟨rfl, trivial⟩⟩
  · intro q; have w := w.2 q
    refine y_ldk (ok := q_isI) (n := 1) (ck_at dt_P_count 35 rfl) rfl rfl (fun _ => rfl) rfl rfl ?_
    refine y_op (ck_at dt_P_count 36 rfl) rfl (o_bipush _ (by decide)) ?_
    refine y_icmp (t := 83) (ck_at dt_P_count 37 rfl) rfl p1 ⟨by decide, by decide⟩ ?_ ?_
    · intro q; have w := w.1 q
      exact y_wk (c_P_count_83_ok (by omega) hS w) ⟨rfl, ⟨rfl, trivial⟩⟩
    · intro q; have w := w.2 q
      refine y_ldk (ok := q_isA) (n := 0) (ck_at dt_P_count 38 rfl) rfl rfl (fun _ => rfl) rfl rfl ?_
      refine y_ldk (ok := q_isI) (n := 1) (ck_at dt_P_count 39 rfl) rfl rfl (fun _ => rfl) rfl rfl ?_
      refine y_op (ck_at dt_P_count 40 rfl) rfl (o_bipush _ (by decide)) ?_
      refine y_op (ck_at dt_P_count 41 rfl) rfl o_isub ?_
      refine y_virt (k' := n_P_textAt) (n := 0) (as := [iv (x1 - 20)]) (r := []) (ck_at dt_P_count 42 rfl) own_P_count (cm_at 138 rfl) vk_P_textAt rfl nl_P_textAt rfl rfl rfl rfl ⟨(SH.o hS ⟨by decide, by decide, by decide⟩), ?_⟩
      exact w.mono (Nat.le_refl _) (fun o B' w => w.elim (fun ⟨v, ho, hov, hS', w⟩ => Or.inl ⟨some (.ref v), ho, y_wk (c_P_count_79_ok (by omega) hS' hov w) trivial⟩) Or.inr)
def c_P_count_55 (h1 : qH) (d : Nat) (r0 : Nat) (B : qB) (Q : qO → qB → Prop) : Prop := Q (.inl (some (iv (B r0 10)))) B
theorem c_P_count_55_ok {h1 : qH} {d : Nat} {r0 : Nat} {B : qB} {Q : qO → qB → Prop} (hd : 1 ≤ d) (hS : SH B) (hr0 : ob 5 r0) (w : c_P_count_55 h1 d r0 B Q) : qY h1 (d + 1) n_P_count 55 [none, none] [.ref r0] B Q := by
  unfold c_P_count_55 at w
  refine y_virtP (k' := n_Pr_weight) (n := 0) (as := []) (r := []) (ck_at dt_P_count 30 rfl) own_P_count (cm_at 137 rfl) vk_Pr_weight rfl nl_Pr_weight rfl rfl rfl rfl (SH.o hS hr0) (Y_Pr_weight (by omega) hS hr0 ⟨rfl, rfl⟩) ?_
  exact y_retI (ck_at dt_P_count 31 rfl) rt_P_count w
def c_P_count_0 (h1 : qH) (d : Nat) (x1 : Int) (B : qB) (Q : qO → qB → Prop) : Prop := R32 x1 ∧ (¬ x1 = 0 → (¬ x1 = 1 → (¬ x1 = 2 → (x1 < 10 → c_P_count_59 h1 d x1 B Q) ∧ (x1 ≥ 10 → (x1 ≥ 18 → c_P_count_59 h1 d x1 B Q) ∧ (x1 < 18 → qY h1 d n_P_programAt 0 [some (.ref 0), some (iv (x1 - 10))] [] B (fun o B' => (∃ v : Nat, o = .inl (some (.ref v)) ∧ ob 5 v ∧ SH B' ∧ c_P_count_55 h1 d v B' Q) ∨ ∃ E, o = .inr E ∧ Q (.inr E) B')))) ∧ (x1 = 2 → ob 3 ((B 0 10).toNat) ∧ Q (.inl (some (iv (B ((B 0 10).toNat) 1)))) B)) ∧ (x1 = 1 → Q (.inl (some (iv (B 0 12)))) B)) ∧ (x1 = 0 → ob 1 ((B 0 8).toNat) ∧ Q (.inl (some (iv (B ((B 0 8).toNat) 1)))) B)
theorem c_P_count_0_ok {h1 : qH} {d : Nat} {x1 : Int} {B : qB} {Q : qO → qB → Prop} (hd : 1 ≤ d) (hS : SH B) (w : c_P_count_0 h1 d x1 B Q) : qY h1 (d + 1) n_P_count 0 [some (.ref 0), some (iv x1)] [] B Q := by
  unfold c_P_count_0 at w
  obtain ⟨p1, w⟩ := w
  refine y_ldk (ok := q_isI) (n := 1) (ck_at dt_P_count 0 rfl) rfl rfl (fun _ => rfl) rfl rfl ?_
  refine y_ifz (t := 12) (ck_at dt_P_count 1 rfl) rfl p1 ?_ ?_
  · intro q; have w := w.1 q
    refine y_ldk (ok := q_isI) (n := 1) (ck_at dt_P_count 6 rfl) rfl rfl (fun _ => rfl) rfl rfl ?_
    refine y_op (ck_at dt_P_count 7 rfl) rfl (o_const _) ?_
    refine y_icmp (t := 22) (ck_at dt_P_count 8 rfl) rfl p1 ⟨by decide, by decide⟩ ?_ ?_
    · intro q; have w := w.1 q
      refine y_ldk (ok := q_isI) (n := 1) (ck_at dt_P_count 12 rfl) rfl rfl (fun _ => rfl) rfl rfl ?_
      refine y_op (ck_at dt_P_count 13 rfl) rfl (o_const _) ?_
      refine y_icmp (t := 35) (ck_at dt_P_count 14 rfl) rfl p1 ⟨by decide, by decide⟩ ?_ ?_
      · intro q; have w := w.1 q
        refine y_ldk (ok := q_isI) (n := 1) (ck_at dt_P_count 19 rfl) rfl rfl (fun _ => rfl) rfl rfl ?_
        refine y_op (ck_at dt_P_count 20 rfl) rfl (o_bipush _ (by decide)) ?_
        refine y_icmp (t := 59) (ck_at dt_P_count 21 rfl) rfl p1 ⟨by decide, by decide⟩ ?_ ?_
        · intro q; have w := w.1 q
          exact y_wk (c_P_count_59_ok (by omega) hS w) ⟨rfl, ⟨rfl, trivial⟩⟩
        · intro q; have w := w.2 q
          refine y_ldk (ok := q_isI) (n := 1) (ck_at dt_P_count 22 rfl) rfl rfl (fun _ => rfl) rfl rfl ?_
          refine y_op (ck_at dt_P_count 23 rfl) rfl (o_bipush _ (by decide)) ?_
          refine y_icmp (t := 59) (ck_at dt_P_count 24 rfl) rfl p1 ⟨by decide, by decide⟩ ?_ ?_
          · intro q; have w := w.1 q
            exact y_wk (c_P_count_59_ok (by omega) hS w) ⟨rfl, ⟨rfl, trivial⟩⟩
          · intro q; have w := w.2 q
            refine y_ldk (ok := q_isA) (n := 0) (ck_at dt_P_count 25 rfl) rfl rfl (fun _ => rfl) rfl rfl ?_
            refine y_ldk (ok := q_isI) (n := 1) (ck_at dt_P_count 26 rfl) rfl rfl (fun _ => rfl) rfl rfl ?_
            refine y_op (ck_at dt_P_count 27 rfl) rfl (o_bipush _ (by decide)) ?_
            refine y_op (ck_at dt_P_count 28 rfl) rfl o_isub ?_
            refine y_virt (k' := n_P_programAt) (n := 0) (as := [iv (x1 - 10)]) (r := []) (ck_at dt_P_count 29 rfl) own_P_count (cm_at 131 rfl) vk_P_programAt rfl nl_P_programAt rfl rfl rfl rfl ⟨(SH.o hS ⟨by decide, by decide, by decide⟩), ?_⟩
            exact w.mono (Nat.le_refl _) (fun o B' w => w.elim (fun ⟨v, ho, hov, hS', w⟩ => Or.inl ⟨some (.ref v), ho, y_wk (c_P_count_55_ok (by omega) hS' hov w) trivial⟩) Or.inr)
      · intro q; have w := w.2 q
        obtain ⟨p2, w⟩ := w
        refine y_ldk (ok := q_isA) (n := 0) (ck_at dt_P_count 15 rfl) rfl rfl (fun _ => rfl) rfl rfl ?_
        refine y_getD (K := 10) (j := 10) (a := 0) (ck_at dt_P_count 16 rfl) own_P_count (cf_at 60 rfl) rfl rfl rfl ⟨(SH.o hS ⟨by decide, by decide, by decide⟩), ?_⟩
        refine y_virtP (k' := n_Fo_amount) (n := 0) (as := []) (r := []) (ck_at dt_P_count 17 rfl) own_P_count (cm_at 150 rfl) vk_Fo_amount rfl nl_Fo_amount rfl rfl rfl rfl (SH.o hS p2) (Y_Fo_amount (by omega) hS p2 ⟨rfl, rfl⟩) ?_
        exact y_retI (ck_at dt_P_count 18 rfl) rt_P_count w
    · intro q; have w := w.2 q
      refine y_ldk (ok := q_isA) (n := 0) (ck_at dt_P_count 9 rfl) rfl rfl (fun _ => rfl) rfl rfl ?_
      refine y_getI (K := 10) (j := 12) (a := 0) (ck_at dt_P_count 10 rfl) own_P_count (cf_at 62 rfl) rfl rfl rfl ⟨(SH.o hS ⟨by decide, by decide, by decide⟩), ?_⟩
      exact y_retI (ck_at dt_P_count 11 rfl) rt_P_count w
  · intro q; have w := w.2 q
    obtain ⟨p3, w⟩ := w
    refine y_ldk (ok := q_isA) (n := 0) (ck_at dt_P_count 2 rfl) rfl rfl (fun _ => rfl) rfl rfl ?_
    refine y_getD (K := 10) (j := 8) (a := 0) (ck_at dt_P_count 3 rfl) own_P_count (cf_at 53 rfl) rfl rfl rfl ⟨(SH.o hS ⟨by decide, by decide, by decide⟩), ?_⟩
    refine y_virtP (k' := n_By_size) (n := 0) (as := []) (r := []) (ck_at dt_P_count 4 rfl) own_P_count (cm_at 128 rfl) vk_By_size rfl nl_By_size rfl rfl rfl rfl (SH.o hS p3) (Y_By_size (by omega) hS p3 ⟨rfl, rfl⟩) ?_
    exact y_retI (ck_at dt_P_count 5 rfl) rt_P_count w
/-! PatternTrier.span(III)I -/
def t_P_span : List (Nat × Instr × Nat) := [(0, .aload_n 0, 1), (1, .iload_n 1, 1), (2, .invokevirtual 122, 3), (5, .astore 4, 2), (7, .aload_n 0, 1), (8, .iload_n 2, 1), (9, .invokevirtual 153, 3), (12, .astore 5, 2), (14, .iload_n 3, 1), (15, .ifCond .lt 8, 3), (18, .iload_n 3, 1), (19, .iconst 1, 1), (20, .if_icmp .le 13, 3), (23, .new 110, 3), (26, .dup, 1), (27, .ldc 230, 2), (29, .invokespecial 114, 3), (32, .athrow, 1), (33, .aload 4, 2), (35, .invokestatic 165, 3), (38, .aload 4, 2), (40, .invokevirtual 232, 3), (43, .iconst (-1), 1), (44, .if_icmp .ne 13, 3), (47, .new 235, 3), (50, .dup, 1), (51, .ldc 237, 2), (53, .invokespecial 239, 3), (56, .athrow, 1), (57, .iconst 0, 1), (58, .istore 6, 2), (60, .iload 6, 2), (62, .aload 5, 2), (64, .invokevirtual 107, 3), (67, .if_icmp .ge 39, 3), (70, .aload 4, 2), (72, .aload 4, 2), (74, .invokevirtual 232, 3), (77, .aload 5, 2), (79, .iload 6, 2), (81, .invokevirtual 240, 3), (84, .invokevirtual 243, 3), (87, .iload_n 3, 1), (88, .iconst 1, 1), (89, .if_icmp .ne 7, 3), (92, .iconst 1, 1), (93, .goto 4, 3), (96, .iconst 0, 1), (97, .if_icmp .ne 9, 3), (100, .iinc 6 1, 3), (103, .goto (-43), 3), (106, .iload 6, 2), (108, .ireturn, 1)]
set_option maxRecDepth 100000 in
theorem dt_P_span : q_ck n_P_span t_P_span = true := by decide +kernel
set_option maxRecDepth 100000 in
theorem th_P_span_23 (st : List Value) : q_throw (q_ms n_P_span).2.1 (q_ms n_P_span).2.2.1 23 (.new 110) [] = some "java/lang/IllegalArgumentException" := by decide +kernel
set_option maxRecDepth 100000 in
theorem th_P_span_47 (st : List Value) : q_throw (q_ms n_P_span).2.1 (q_ms n_P_span).2.2.1 47 (.new 235) [] = some "java/lang/ClassCastException" := by decide +kernel
def c_P_span_97 (h1 : qH) (d : Nat) (x3 : Int) (a4 : Nat) (a5 : Nat) (x6 : Int) (s0 : Int) (s1 : Int) (B : qB) (Q : qO → qB → Prop) : Prop := R32 s0 ∧ R32 s1 ∧ (¬ s0 = s1 → Q (.inl (some (iv x6))) B) ∧ (s0 = s1 → qY h1 (d + 1) n_P_span 60 [none, none, none, some (iv x3), some (.ref a4), some (.ref a5), some (iv (x6 + 1))] [] B Q)
theorem c_P_span_97_ok {h1 : qH} {d : Nat} {x3 : Int} {a4 : Nat} {a5 : Nat} {x6 : Int} {s0 : Int} {s1 : Int} {B : qB} {Q : qO → qB → Prop} (hd : 3 ≤ d) (hS : SH B) (ha4 : ob 5 a4) (ha5 : ob 1 a5) (w : c_P_span_97 h1 d x3 a4 a5 x6 s0 s1 B Q) : qY h1 (d + 1) n_P_span 97 [none, none, none, some (iv x3), some (.ref a4), some (.ref a5), some (iv x6)] [iv s1, iv s0] B Q := by
  unfold c_P_span_97 at w
  obtain ⟨p1, p2, w⟩ := w
  refine y_icmp (t := 106) (ck_at dt_P_span 48 rfl) rfl p1 p2 ?_ ?_
  · intro q; have w := w.1 q
    refine y_ldk (ok := q_isI) (n := 6) (ck_at dt_P_span 51 rfl) rfl rfl (fun _ => rfl) rfl rfl ?_
    exact y_retI (ck_at dt_P_span 52 rfl) rt_P_span w
  · intro q; have w := w.2 q
    refine y_iinc (n := 6) (L' := [none, none, none, some (iv x3), some (.ref a4), some (.ref a5), some (iv (x6 + 1))]) (ck_at dt_P_span 49 rfl) rfl nl_P_span (by decide) rfl rfl ?_
    refine y_goto (t := 60) (ck_at dt_P_span 50 rfl) rfl ?_
    exact y_wk w ⟨rfl, ⟨rfl, ⟨rfl, ⟨rfl, trivial⟩⟩⟩⟩
def c_P_span_60 (h1 : qH) (d : Nat) (x3 : Int) (a4 : Nat) (a5 : Nat) (x6 : Int) (B : qB) (Q : qO → qB → Prop) : Prop := R32 x6 ∧ R32 (B a5 1) ∧ (x6 ≥ B a5 1 → Q (.inl (some (iv x6))) B) ∧ (x6 < B a5 1 → bOK B a5 ∧ hoO (B a4 12) (byA B a5 x6) ∧ R32 x3 ∧ (¬ x3 = 1 → c_P_span_97 h1 d x3 a4 a5 x6 (bi (hoC B (a4 + 7) (B a4 12) (byA B a5 x6))) 0 B Q) ∧ (x3 = 1 → c_P_span_97 h1 d x3 a4 a5 x6 (bi (hoC B (a4 + 7) (B a4 12) (byA B a5 x6))) 1 B Q))
theorem c_P_span_60_ok {h1 : qH} {d : Nat} {x3 : Int} {a4 : Nat} {a5 : Nat} {x6 : Int} {B : qB} {Q : qO → qB → Prop} (hd : 3 ≤ d) (hS : SH B) (ha4 : ob 5 a4) (ha5 : ob 1 a5) (w : c_P_span_60 h1 d x3 a4 a5 x6 B Q) : qY h1 (d + 1) n_P_span 60 [none, none, none, some (iv x3), some (.ref a4), some (.ref a5), some (iv x6)] [] B Q := by
  unfold c_P_span_60 at w
  obtain ⟨p1, p2, w⟩ := w
  refine y_ldk (ok := q_isI) (n := 6) (ck_at dt_P_span 31 rfl) rfl rfl (fun _ => rfl) rfl rfl ?_
  refine y_ldk (ok := q_isA) (n := 5) (ck_at dt_P_span 32 rfl) rfl rfl (fun _ => rfl) rfl rfl ?_
  refine y_virtP (k' := n_By_size) (n := 0) (as := []) (r := [iv x6]) (ck_at dt_P_span 33 rfl) own_P_span (cm_at 128 rfl) vk_By_size rfl nl_By_size rfl rfl rfl rfl (SH.o hS ha5) (Y_By_size (by omega) hS ha5 ⟨rfl, rfl⟩) ?_
  refine y_icmp (t := 106) (ck_at dt_P_span 34 rfl) rfl p1 p2 ?_ ?_
  · intro q; have w := w.1 q
    refine y_ldk (ok := q_isI) (n := 6) (ck_at dt_P_span 51 rfl) rfl rfl (fun _ => rfl) rfl rfl ?_
    exact y_retI (ck_at dt_P_span 52 rfl) rt_P_span w
  · intro q; have w := w.2 q
    obtain ⟨p3, p4, p5, w⟩ := w
    refine y_ldk (ok := q_isA) (n := 4) (ck_at dt_P_span 35 rfl) rfl rfl (fun _ => rfl) rfl rfl ?_
    refine y_ldk (ok := q_isA) (n := 4) (ck_at dt_P_span 36 rfl) rfl rfl (fun _ => rfl) rfl rfl ?_
    refine y_virtP (k' := n_Pr_onlySet) (n := 0) (as := []) (r := [.ref a4]) (ck_at dt_P_span 37 rfl) own_P_span (cm_at 155 rfl) vk_Pr_onlySet rfl nl_Pr_onlySet rfl rfl rfl rfl (SH.o hS ha4) (Y_Pr_onlySet (by omega) hS ha4 ⟨rfl, rfl⟩) ?_
    refine y_ldk (ok := q_isA) (n := 5) (ck_at dt_P_span 38 rfl) rfl rfl (fun _ => rfl) rfl rfl ?_
    refine y_ldk (ok := q_isI) (n := 6) (ck_at dt_P_span 39 rfl) rfl rfl (fun _ => rfl) rfl rfl ?_
    refine y_virtP (k' := n_By_at) (n := 0) (as := [iv x6]) (r := [iv (B a4 12), .ref a4]) (ck_at dt_P_span 40 rfl) own_P_span (cm_at 156 rfl) vk_By_at rfl nl_By_at rfl rfl rfl rfl (SH.o hS ha5) (Y_By_at (by omega) hS ha5 p3 p1 ⟨rfl, rfl⟩) ?_
    refine y_virtP (k' := n_Pr_holds) (n := 0) (as := [iv (B a4 12), iv (byA B a5 x6)]) (r := []) (ck_at dt_P_span 41 rfl) own_P_span (cm_at 157 rfl) vk_Pr_holds rfl nl_Pr_holds rfl rfl rfl rfl (SH.o hS ha4) (Y_Pr_holds (by omega) hS ha4 p4 ⟨rfl, rfl⟩) ?_
    refine y_ldk (ok := q_isI) (n := 3) (ck_at dt_P_span 42 rfl) rfl rfl (fun _ => rfl) rfl rfl ?_
    refine y_op (ck_at dt_P_span 43 rfl) rfl (o_const _) ?_
    refine y_icmp (t := 96) (ck_at dt_P_span 44 rfl) rfl p5 ⟨by decide, by decide⟩ ?_ ?_
    · intro q; have w := w.1 q
      refine y_op (ck_at dt_P_span 47 rfl) rfl (o_const _) ?_
      exact y_wk (c_P_span_97_ok (by omega) hS ha4 ha5 w) ⟨rfl, ⟨rfl, ⟨rfl, ⟨rfl, trivial⟩⟩⟩⟩
    · intro q; have w := w.2 q
      refine y_op (ck_at dt_P_span 45 rfl) rfl (o_const _) ?_
      refine y_goto (t := 97) (ck_at dt_P_span 46 rfl) rfl ?_
      exact y_wk (c_P_span_97_ok (by omega) hS ha4 ha5 w) ⟨rfl, ⟨rfl, ⟨rfl, ⟨rfl, trivial⟩⟩⟩⟩
def c_P_span_38 (h1 : qH) (d : Nat) (x3 : Int) (a4 : Nat) (a5 : Nat) (B : qB) (Q : qO → qB → Prop) : Prop := R32 (B a4 12) ∧ (¬ B a4 12 = (-1) → qY h1 (d + 1) n_P_span 60 [none, none, none, some (iv x3), some (.ref a4), some (.ref a5), some (iv 0)] [] B Q) ∧ (B a4 12 = (-1) → (B 2000000000 (-1) = 0 ∧ 0 ≤ B 2000000000 0 ∧ 0 ≤ B 2000000000 1) ∧ Q (.inr "java/lang/ClassCastException") (thC B))
theorem c_P_span_38_ok {h1 : qH} {d : Nat} {x3 : Int} {a4 : Nat} {a5 : Nat} {B : qB} {Q : qO → qB → Prop} (hd : 3 ≤ d) (hS : SH B) (ha4 : ob 5 a4) (ha5 : ob 1 a5) (w : c_P_span_38 h1 d x3 a4 a5 B Q) : qY h1 (d + 1) n_P_span 38 [none, none, none, some (iv x3), some (.ref a4), some (.ref a5), none] [] B Q := by
  unfold c_P_span_38 at w
  obtain ⟨p1, w⟩ := w
  refine y_ldk (ok := q_isA) (n := 4) (ck_at dt_P_span 20 rfl) rfl rfl (fun _ => rfl) rfl rfl ?_
  refine y_virtP (k' := n_Pr_onlySet) (n := 0) (as := []) (r := []) (ck_at dt_P_span 21 rfl) own_P_span (cm_at 155 rfl) vk_Pr_onlySet rfl nl_Pr_onlySet rfl rfl rfl rfl (SH.o hS ha4) (Y_Pr_onlySet (by omega) hS ha4 ⟨rfl, rfl⟩) ?_
  refine y_op (ck_at dt_P_span 22 rfl) rfl (o_const _) ?_
  refine y_icmp (t := 57) (ck_at dt_P_span 23 rfl) rfl p1 ⟨by decide, by decide⟩ ?_ ?_
  · intro q; have w := w.1 q
    refine y_op (ck_at dt_P_span 29 rfl) rfl (o_const _) ?_
    refine y_st1 (ok := q_isI) (n := 6) (L' := [none, none, none, some (iv x3), some (.ref a4), some (.ref a5), some (iv 0)]) (ck_at dt_P_span 30 rfl) rfl (fun _ => rfl) (fun _ _ => rfl) rfl nl_P_span (by decide) rfl rfl ?_
    exact y_wk w ⟨rfl, ⟨rfl, ⟨rfl, ⟨rfl, trivial⟩⟩⟩⟩
  · intro q; have w := w.2 q
    exact y_throw (st := []) (E := "java/lang/ClassCastException") (ck_at dt_P_span 24 rfl) (mem_235 own_P_span) (th_P_span_47 []) w
def c_P_span_12 (h1 : qH) (d : Nat) (x3 : Int) (a4 : Nat) (r0 : Nat) (B : qB) (Q : qO → qB → Prop) : Prop := R32 x3 ∧ (x3 < 0 → (B 2000000000 (-1) = 0 ∧ 0 ≤ B 2000000000 0 ∧ 0 ≤ B 2000000000 1) ∧ Q (.inr "java/lang/IllegalArgumentException") (thC B)) ∧ (x3 ≥ 0 → (x3 ≤ 1 → qY h1 d n_P_needPattern 0 [some (.ref a4)] [] B (fun o B' => (o = .inl none ∧ SH B' ∧ c_P_span_38 h1 d x3 a4 r0 B' Q) ∨ ∃ E, o = .inr E ∧ Q (.inr E) B')) ∧ (x3 > 1 → (B 2000000000 (-1) = 0 ∧ 0 ≤ B 2000000000 0 ∧ 0 ≤ B 2000000000 1) ∧ Q (.inr "java/lang/IllegalArgumentException") (thC B)))
theorem c_P_span_12_ok {h1 : qH} {d : Nat} {x3 : Int} {a4 : Nat} {r0 : Nat} {B : qB} {Q : qO → qB → Prop} (hd : 3 ≤ d) (hS : SH B) (ha4 : ob 5 a4) (hr0 : ob 1 r0) (w : c_P_span_12 h1 d x3 a4 r0 B Q) : qY h1 (d + 1) n_P_span 12 [none, none, none, some (iv x3), some (.ref a4), none, none] [.ref r0] B Q := by
  unfold c_P_span_12 at w
  obtain ⟨p1, w⟩ := w
  refine y_st1 (ok := q_isA) (n := 5) (L' := [none, none, none, some (iv x3), some (.ref a4), some (.ref r0), none]) (ck_at dt_P_span 7 rfl) rfl (fun _ => rfl) (fun _ _ => rfl) rfl nl_P_span (by decide) rfl rfl ?_
  refine y_ldk (ok := q_isI) (n := 3) (ck_at dt_P_span 8 rfl) rfl rfl (fun _ => rfl) rfl rfl ?_
  refine y_ifz (t := 23) (ck_at dt_P_span 9 rfl) rfl p1 ?_ ?_
  · intro q; have w := w.1 q
    exact y_throw (st := []) (E := "java/lang/IllegalArgumentException") (ck_at dt_P_span 13 rfl) (mem_110 own_P_span) (th_P_span_23 []) w
  · intro q; have w := w.2 q
    refine y_ldk (ok := q_isI) (n := 3) (ck_at dt_P_span 10 rfl) rfl rfl (fun _ => rfl) rfl rfl ?_
    refine y_op (ck_at dt_P_span 11 rfl) rfl (o_const _) ?_
    refine y_icmp (t := 33) (ck_at dt_P_span 12 rfl) rfl p1 ⟨by decide, by decide⟩ ?_ ?_
    · intro q; have w := w.1 q
      refine y_ldk (ok := q_isA) (n := 4) (ck_at dt_P_span 18 rfl) rfl rfl (fun _ => rfl) rfl rfl ?_
      refine y_stat (k' := n_P_needPattern) (n := 0) (as := [.ref a4]) (r := []) (ck_at dt_P_span 19 rfl) own_P_span (cm_at 140 rfl) (cs_at 30 rfl) vk_P_needPattern rfl nl_P_needPattern rfl rfl rfl rfl ?_
      exact w.mono (Nat.le_refl _) (fun o B' w => w.elim (fun ⟨ho, hS', w⟩ => Or.inl ⟨none, ho, y_wk (c_P_span_38_ok (by omega) hS' ha4 hr0 w) ⟨rfl, ⟨rfl, ⟨rfl, trivial⟩⟩⟩⟩) Or.inr)
    · intro q; have w := w.2 q
      exact y_throw (st := []) (E := "java/lang/IllegalArgumentException") (ck_at dt_P_span 13 rfl) (mem_110 own_P_span) (th_P_span_23 []) w
def c_P_span_5 (h1 : qH) (d : Nat) (x2 : Int) (x3 : Int) (r0 : Nat) (B : qB) (Q : qO → qB → Prop) : Prop := qY h1 d n_P_textAt 0 [some (.ref 0), some (iv x2)] [] B (fun o B' => (∃ v : Nat, o = .inl (some (.ref v)) ∧ ob 1 v ∧ SH B' ∧ c_P_span_12 h1 d x3 r0 v B' Q) ∨ ∃ E, o = .inr E ∧ Q (.inr E) B')
theorem c_P_span_5_ok {h1 : qH} {d : Nat} {x2 : Int} {x3 : Int} {r0 : Nat} {B : qB} {Q : qO → qB → Prop} (hd : 3 ≤ d) (hS : SH B) (hr0 : ob 5 r0) (w : c_P_span_5 h1 d x2 x3 r0 B Q) : qY h1 (d + 1) n_P_span 5 [some (.ref 0), none, some (iv x2), some (iv x3), none, none, none] [.ref r0] B Q := by
  unfold c_P_span_5 at w
  refine y_st1 (ok := q_isA) (n := 4) (L' := [some (.ref 0), none, some (iv x2), some (iv x3), some (.ref r0), none, none]) (ck_at dt_P_span 3 rfl) rfl (fun _ => rfl) (fun _ _ => rfl) rfl nl_P_span (by decide) rfl rfl ?_
  refine y_ldk (ok := q_isA) (n := 0) (ck_at dt_P_span 4 rfl) rfl rfl (fun _ => rfl) rfl rfl ?_
  refine y_ldk (ok := q_isI) (n := 2) (ck_at dt_P_span 5 rfl) rfl rfl (fun _ => rfl) rfl rfl ?_
  refine y_virt (k' := n_P_textAt) (n := 0) (as := [iv x2]) (r := []) (ck_at dt_P_span 6 rfl) own_P_span (cm_at 138 rfl) vk_P_textAt rfl nl_P_textAt rfl rfl rfl rfl ⟨(SH.o hS ⟨by decide, by decide, by decide⟩), ?_⟩
  exact w.mono (Nat.le_refl _) (fun o B' w => w.elim (fun ⟨v, ho, hov, hS', w⟩ => Or.inl ⟨some (.ref v), ho, y_wk (c_P_span_12_ok (by omega) hS' hr0 hov w) ⟨rfl, ⟨rfl, trivial⟩⟩⟩) Or.inr)
def c_P_span_0 (h1 : qH) (d : Nat) (x1 : Int) (x2 : Int) (x3 : Int) (B : qB) (Q : qO → qB → Prop) : Prop := qY h1 d n_P_programAt 0 [some (.ref 0), some (iv x1)] [] B (fun o B' => (∃ v : Nat, o = .inl (some (.ref v)) ∧ ob 5 v ∧ SH B' ∧ c_P_span_5 h1 d x2 x3 v B' Q) ∨ ∃ E, o = .inr E ∧ Q (.inr E) B')
theorem c_P_span_0_ok {h1 : qH} {d : Nat} {x1 : Int} {x2 : Int} {x3 : Int} {B : qB} {Q : qO → qB → Prop} (hd : 3 ≤ d) (hS : SH B) (w : c_P_span_0 h1 d x1 x2 x3 B Q) : qY h1 (d + 1) n_P_span 0 [some (.ref 0), some (iv x1), some (iv x2), some (iv x3), none, none, none] [] B Q := by
  unfold c_P_span_0 at w
  refine y_ldk (ok := q_isA) (n := 0) (ck_at dt_P_span 0 rfl) rfl rfl (fun _ => rfl) rfl rfl ?_
  refine y_ldk (ok := q_isI) (n := 1) (ck_at dt_P_span 1 rfl) rfl rfl (fun _ => rfl) rfl rfl ?_
  refine y_virt (k' := n_P_programAt) (n := 0) (as := [iv x1]) (r := []) (ck_at dt_P_span 2 rfl) own_P_span (cm_at 131 rfl) vk_P_programAt rfl nl_P_programAt rfl rfl rfl rfl ⟨(SH.o hS ⟨by decide, by decide, by decide⟩), ?_⟩
  exact w.mono (Nat.le_refl _) (fun o B' w => w.elim (fun ⟨v, ho, hov, hS', w⟩ => Or.inl ⟨some (.ref v), ho, y_wk (c_P_span_5_ok (by omega) hS' hov w) ⟨rfl, ⟨rfl, ⟨rfl, trivial⟩⟩⟩⟩) Or.inr)
