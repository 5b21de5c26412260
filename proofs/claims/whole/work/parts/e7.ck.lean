/-! PatternTrier.find(II)I -/
def t_P_find : List (Nat × Instr × Nat) := [(0, .aload_n 0, 1), (1, .iload_n 1, 1), (2, .invokevirtual 122, 3), (5, .astore_n 3, 1), (6, .aload_n 0, 1), (7, .iload_n 2, 1), (8, .invokevirtual 153, 3), (11, .astore 4, 2), (13, .aload_n 3, 1), (14, .invokestatic 165, 3), (17, .aload 4, 2), (19, .invokestatic 191, 3), (22, .aload_n 0, 1), (23, .getfield 82, 3), (26, .invokevirtual 194, 3), (29, .aload_n 0, 1), (30, .getfield 75, 3), (33, .aload_n 3, 1), (34, .aload 4, 2), (36, .iconst 0, 1), (37, .invokevirtual 171, 3), (40, .iconst 0, 1), (41, .istore 5, 2), (43, .iconst 0, 1), (44, .istore 6, 2), (46, .iload 6, 2), (48, .sipush 300, 3), (51, .if_icmp .gt 58, 3), (54, .aload_n 0, 1), (55, .getfield 75, 3), (58, .iload 5, 2), (60, .aload 4, 2), (62, .invokevirtual 107, 3), (65, .invokevirtual 175, 3), (68, .ifCond .eq 41, 3), (71, .aload_n 0, 1), (72, .getfield 82, 3), (75, .aload_n 0, 1), (76, .getfield 75, 3), (79, .iconst 0, 1), (80, .invokevirtual 183, 3), (83, .aload_n 0, 1), (84, .getfield 75, 3), (87, .iconst 1, 1), (88, .invokevirtual 183, 3), (91, .invokevirtual 197, 3), (94, .aload_n 0, 1), (95, .getfield 75, 3), (98, .invokevirtual 201, 3), (101, .istore 5, 2), (103, .iinc 6 1, 3), (106, .goto (-60), 3), (109, .aload_n 0, 1), (110, .getfield 82, 3), (113, .invokevirtual 204, 3), (116, .ireturn, 1)]
set_option maxRecDepth 100000 in
theorem dt_P_find : q_ck n_P_find t_P_find = true := by decide +kernel
def c_P_find_68 (h1 : qH) (d : Nat) (a4 : Nat) (x6 : Int) (s0 : Int) (B : qB) (Q : qO → qB → Prop) : Prop := R32 s0 ∧ (s0 = 0 → ob 3 ((B 0 10).toNat) ∧ Q (.inl (some (iv (B ((B 0 10).toNat) 1)))) B) ∧ (¬ s0 = 0 → ob 3 ((B 0 10).toNat) ∧ 0 ≤ B ((B 0 10).toNat) 1 ∧ B ((B 0 10).toNat) 1 ≤ 300 ∧ R32 ((foC B ((B 0 10).toNat) (B 107 0) (B 107 1)) 107 0) ∧ R32 ((foC B ((B 0 10).toNat) (B 107 0) (B 107 1)) 107 1) ∧ qY h1 (d + 1) n_P_find 46 [some (.ref 0), none, none, none, some (.ref a4), some (iv (plB (foC B ((B 0 10).toNat) (B 107 0) (B 107 1)))), some (iv (x6 + 1))] [] (foC B ((B 0 10).toNat) (B 107 0) (B 107 1)) Q)
theorem c_P_find_68_ok {h1 : qH} {d : Nat} {a4 : Nat} {x6 : Int} {s0 : Int} {B : qB} {Q : qO → qB → Prop} (hd : 2 ≤ d) (hS : SH B) (ha4 : ob 1 a4) (w : c_P_find_68 h1 d a4 x6 s0 B Q) : qY h1 (d + 1) n_P_find 68 [some (.ref 0), none, none, none, some (.ref a4), none, some (iv x6)] [iv s0] B Q := by
  unfold c_P_find_68 at w
  obtain ⟨p1, w⟩ := w
  refine y_ifz (t := 109) (ck_at dt_P_find 34 rfl) rfl p1 ?_ ?_
  · intro q; have w := w.1 q
    obtain ⟨p2, w⟩ := w
    refine y_ldk (ok := q_isA) (n := 0) (ck_at dt_P_find 52 rfl) rfl rfl (fun _ => rfl) rfl rfl ?_
    refine y_getD (K := 10) (j := 10) (a := 0) (ck_at dt_P_find 53 rfl) own_P_find (cf_at 60 rfl) rfl rfl rfl ⟨(SH.o hS ⟨by decide, by decide, by decide⟩), ?_⟩
    refine y_virtP (k' := n_Fo_amount) (n := 0) (as := []) (r := []) (ck_at dt_P_find 54 rfl) own_P_find (cm_at 150 rfl) vk_Fo_amount rfl nl_Fo_amount rfl rfl rfl rfl (SH.o hS p2) (Y_Fo_amount (by omega) hS p2 ⟨rfl, rfl⟩) ?_
    exact y_retI (ck_at dt_P_find 55 rfl) rt_P_find w
  · intro q; have w := w.2 q
    obtain ⟨p3, p4, p5, p7, p8, w⟩ := w
    refine y_ldk (ok := q_isA) (n := 0) (ck_at dt_P_find 35 rfl) rfl rfl (fun _ => rfl) rfl rfl ?_
    refine y_getD (K := 10) (j := 10) (a := 0) (ck_at dt_P_find 36 rfl) own_P_find (cf_at 60 rfl) rfl rfl rfl ⟨(SH.o hS ⟨by decide, by decide, by decide⟩), ?_⟩
    refine y_ldk (ok := q_isA) (n := 0) (ck_at dt_P_find 37 rfl) rfl rfl (fun _ => rfl) rfl rfl ?_
    refine y_getF (r := 102) (K := 10) (j := 6) (a := 0) (ck_at dt_P_find 38 rfl) own_P_find (cf_at 59 rfl) rfl rfl ⟨(SH.o hS ⟨by decide, by decide, by decide⟩), ?_⟩
    refine y_op (ck_at dt_P_find 39 rfl) rfl (o_const _) ?_
    refine y_virtP (k' := n_Wa_mark) (n := 0) (as := [iv 0]) (r := [.ref ((B 0 10).toNat)]) (ck_at dt_P_find 40 rfl) own_P_find (cm_at 144 rfl) vk_Wa_mark rfl nl_Wa_mark rfl rfl rfl rfl (SH.o hS ⟨by decide, by decide, by decide⟩) (Y_Wa_mark (by omega) hS (by decide) (by decide) ⟨rfl, rfl⟩) ?_
    refine y_ldk (ok := q_isA) (n := 0) (ck_at dt_P_find 41 rfl) rfl rfl (fun _ => rfl) rfl rfl ?_
    refine y_getF (r := 102) (K := 10) (j := 6) (a := 0) (ck_at dt_P_find 42 rfl) own_P_find (cf_at 59 rfl) rfl rfl ⟨(SH.o hS ⟨by decide, by decide, by decide⟩), ?_⟩
    refine y_op (ck_at dt_P_find 43 rfl) rfl (o_const _) ?_
    refine y_virtP (k' := n_Wa_mark) (n := 0) (as := [iv 1]) (r := [iv (B 107 0), .ref ((B 0 10).toNat)]) (ck_at dt_P_find 44 rfl) own_P_find (cm_at 144 rfl) vk_Wa_mark rfl nl_Wa_mark rfl rfl rfl rfl (SH.o hS ⟨by decide, by decide, by decide⟩) (Y_Wa_mark (by omega) hS (by decide) (by decide) ⟨rfl, rfl⟩) ?_
    refine y_virtV (k' := n_Fo_add) (n := 0) (as := [iv (B 107 0), iv (B 107 1)]) (r := []) (ck_at dt_P_find 45 rfl) own_P_find (cm_at 148 rfl) vk_Fo_add rfl nl_Fo_add rfl rfl rfl rfl (SH.o hS p3) (Y_Fo_add (by omega) hS p3 p4 p5 ⟨rfl, rfl⟩) ?_
    have hS6 : SH (foC B ((B 0 10).toNat) (B 107 0) (B 107 1)) := S_Fo_add hS p3 p4 p5
    refine y_ldk (ok := q_isA) (n := 0) (ck_at dt_P_find 46 rfl) rfl rfl (fun _ => rfl) rfl rfl ?_
    refine y_getF (r := 102) (K := 10) (j := 6) (a := 0) (ck_at dt_P_find 47 rfl) own_P_find (cf_at 59 rfl) rfl rfl ⟨(SH.o hS6 ⟨by decide, by decide, by decide⟩), ?_⟩
    refine y_virtP (k' := n_Wa_placeBehind) (n := 0) (as := []) (r := []) (ck_at dt_P_find 48 rfl) own_P_find (cm_at 149 rfl) vk_Wa_placeBehind rfl nl_Wa_placeBehind rfl rfl rfl rfl (SH.o hS6 ⟨by decide, by decide, by decide⟩) (Y_Wa_placeBehind (by omega) hS6 p7 p8 ⟨rfl, rfl⟩) ?_
    refine y_st1 (ok := q_isI) (n := 5) (L' := [some (.ref 0), none, none, none, some (.ref a4), some (iv (plB (foC B ((B 0 10).toNat) (B 107 0) (B 107 1)))), some (iv x6)]) (ck_at dt_P_find 49 rfl) rfl (fun _ => rfl) (fun _ _ => rfl) rfl nl_P_find (by decide) rfl rfl ?_
    refine y_iinc (n := 6) (L' := [some (.ref 0), none, none, none, some (.ref a4), some (iv (plB (foC B ((B 0 10).toNat) (B 107 0) (B 107 1)))), some (iv (x6 + 1))]) (ck_at dt_P_find 50 rfl) rfl nl_P_find (by decide) rfl rfl ?_
    refine y_goto (t := 46) (ck_at dt_P_find 51 rfl) rfl ?_
    exact y_wk w ⟨rfl, ⟨rfl, ⟨rfl, ⟨rfl, trivial⟩⟩⟩⟩
def c_P_find_46 (h1 : qH) (d : Nat) (a4 : Nat) (x5 : Int) (x6 : Int) (B : qB) (Q : qO → qB → Prop) : Prop := R32 x6 ∧ (x6 > 300 → ob 3 ((B 0 10).toNat) ∧ Q (.inl (some (iv (B ((B 0 10).toNat) 1)))) B) ∧ (x6 ≤ 300 → qY h1 d n_Wa_tryPlaces 0 [some (.ref 102), some (iv x5), some (iv (B a4 1)), none, none] [] B (fun o B' => ∃ v : Int, o = .inl (some (iv v)) ∧ SH B' ∧ c_P_find_68 h1 d a4 x6 v B' Q))
theorem c_P_find_46_ok {h1 : qH} {d : Nat} {a4 : Nat} {x5 : Int} {x6 : Int} {B : qB} {Q : qO → qB → Prop} (hd : 2 ≤ d) (hS : SH B) (ha4 : ob 1 a4) (w : c_P_find_46 h1 d a4 x5 x6 B Q) : qY h1 (d + 1) n_P_find 46 [some (.ref 0), none, none, none, some (.ref a4), some (iv x5), some (iv x6)] [] B Q := by
  unfold c_P_find_46 at w
  obtain ⟨p1, w⟩ := w
  refine y_ldk (ok := q_isI) (n := 6) (ck_at dt_P_find 25 rfl) rfl rfl (fun _ => rfl) rfl rfl ?_
  refine y_op (ck_at dt_P_find 26 rfl) rfl (o_sipush _ (by decide)) ?_
  refine y_icmp (t := 109) (ck_at dt_P_find 27 rfl) rfl p1 ⟨by decide, by decide⟩ ?_ ?_
  · intro q; have w := w.1 q
    obtain ⟨p2, w⟩ := w
    refine y_ldk (ok := q_isA) (n := 0) (ck_at dt_P_find 52 rfl) rfl rfl (fun _ => rfl) rfl rfl ?_
    refine y_getD (K := 10) (j := 10) (a := 0) (ck_at dt_P_find 53 rfl) own_P_find (cf_at 60 rfl) rfl rfl rfl ⟨(SH.o hS ⟨by decide, by decide, by decide⟩), ?_⟩
    refine y_virtP (k' := n_Fo_amount) (n := 0) (as := []) (r := []) (ck_at dt_P_find 54 rfl) own_P_find (cm_at 150 rfl) vk_Fo_amount rfl nl_Fo_amount rfl rfl rfl rfl (SH.o hS p2) (Y_Fo_amount (by omega) hS p2 ⟨rfl, rfl⟩) ?_
    exact y_retI (ck_at dt_P_find 55 rfl) rt_P_find w
  · intro q; have w := w.2 q
    refine y_ldk (ok := q_isA) (n := 0) (ck_at dt_P_find 28 rfl) rfl rfl (fun _ => rfl) rfl rfl ?_
    refine y_getF (r := 102) (K := 10) (j := 6) (a := 0) (ck_at dt_P_find 29 rfl) own_P_find (cf_at 59 rfl) rfl rfl ⟨(SH.o hS ⟨by decide, by decide, by decide⟩), ?_⟩
    refine y_ldk (ok := q_isI) (n := 5) (ck_at dt_P_find 30 rfl) rfl rfl (fun _ => rfl) rfl rfl ?_
    refine y_ldk (ok := q_isA) (n := 4) (ck_at dt_P_find 31 rfl) rfl rfl (fun _ => rfl) rfl rfl ?_
    refine y_virtP (k' := n_By_size) (n := 0) (as := []) (r := [iv x5, .ref 102]) (ck_at dt_P_find 32 rfl) own_P_find (cm_at 128 rfl) vk_By_size rfl nl_By_size rfl rfl rfl rfl (SH.o hS ha4) (Y_By_size (by omega) hS ha4 ⟨rfl, rfl⟩) ?_
    refine y_virt (k' := n_Wa_tryPlaces) (n := 2) (as := [iv x5, iv (B a4 1)]) (r := []) (ck_at dt_P_find 33 rfl) own_P_find (cm_at 142 rfl) vk_Wa_tryPlaces rfl nl_Wa_tryPlaces rfl rfl rfl rfl ⟨(SH.o hS ⟨by decide, by decide, by decide⟩), ?_⟩
    exact w.mono (Nat.le_refl _) (fun o B' ⟨v, ho, hS', w⟩ => Or.inl ⟨some (iv v), ho, y_wk (c_P_find_68_ok (by omega) hS' ha4 w) ⟨rfl, ⟨rfl, ⟨rfl, trivial⟩⟩⟩⟩)
def c_P_find_40 (h1 : qH) (d : Nat) (a4 : Nat) (B : qB) (Q : qO → qB → Prop) : Prop := qY h1 (d + 1) n_P_find 46 [some (.ref 0), none, none, none, some (.ref a4), some (iv 0), some (iv 0)] [] B Q
theorem c_P_find_40_ok {h1 : qH} {d : Nat} {a4 : Nat} {B : qB} {Q : qO → qB → Prop} (hd : 2 ≤ d) (hS : SH B) (ha4 : ob 1 a4) (w : c_P_find_40 h1 d a4 B Q) : qY h1 (d + 1) n_P_find 40 [some (.ref 0), none, none, none, some (.ref a4), none, none] [] B Q := by
  unfold c_P_find_40 at w
  refine y_op (ck_at dt_P_find 21 rfl) rfl (o_const _) ?_
  refine y_st1 (ok := q_isI) (n := 5) (L' := [some (.ref 0), none, none, none, some (.ref a4), some (iv 0), none]) (ck_at dt_P_find 22 rfl) rfl (fun _ => rfl) (fun _ _ => rfl) rfl nl_P_find (by decide) rfl rfl ?_
  refine y_op (ck_at dt_P_find 23 rfl) rfl (o_const _) ?_
  refine y_st1 (ok := q_isI) (n := 6) (L' := [some (.ref 0), none, none, none, some (.ref a4), some (iv 0), some (iv 0)]) (ck_at dt_P_find 24 rfl) rfl (fun _ => rfl) (fun _ _ => rfl) rfl nl_P_find (by decide) rfl rfl ?_
  exact y_wk w ⟨rfl, ⟨rfl, ⟨rfl, ⟨rfl, trivial⟩⟩⟩⟩
def c_P_find_22 (h1 : qH) (d : Nat) (a3 : Nat) (a4 : Nat) (B : qB) (Q : qO → qB → Prop) : Prop := ob 3 ((B 0 10).toNat) ∧ qY h1 d n_Wa_prepare 0 [some (.ref 102), some (.ref a3), some (.ref a4), some (iv 0)] [] (u2 B ((B 0 10).toNat) 1 0) (fun o B' => o = .inl none ∧ SH B' ∧ c_P_find_40 h1 d a4 B' Q)
theorem c_P_find_22_ok {h1 : qH} {d : Nat} {a3 : Nat} {a4 : Nat} {B : qB} {Q : qO → qB → Prop} (hd : 2 ≤ d) (hS : SH B) (ha3 : ob 5 a3) (ha4 : ob 1 a4) (w : c_P_find_22 h1 d a3 a4 B Q) : qY h1 (d + 1) n_P_find 22 [some (.ref 0), none, none, some (.ref a3), some (.ref a4), none, none] [] B Q := by
  unfold c_P_find_22 at w
  obtain ⟨p1, w⟩ := w
  refine y_ldk (ok := q_isA) (n := 0) (ck_at dt_P_find 12 rfl) rfl rfl (fun _ => rfl) rfl rfl ?_
  refine y_getD (K := 10) (j := 10) (a := 0) (ck_at dt_P_find 13 rfl) own_P_find (cf_at 60 rfl) rfl rfl rfl ⟨(SH.o hS ⟨by decide, by decide, by decide⟩), ?_⟩
  refine y_virtV (k' := n_Fo_clear) (n := 0) (as := []) (r := []) (ck_at dt_P_find 14 rfl) own_P_find (cm_at 147 rfl) vk_Fo_clear rfl nl_Fo_clear rfl rfl rfl rfl (SH.o hS p1) (Y_Fo_clear (by omega) hS p1 ⟨rfl, rfl⟩) ?_
  have hS2 := SH_u2 (b := ((B 0 10).toNat)) (x := 1) (z := 0) hS (by decide)
  refine y_ldk (ok := q_isA) (n := 0) (ck_at dt_P_find 15 rfl) rfl rfl (fun _ => rfl) rfl rfl ?_
  refine y_getF (r := 102) (K := 10) (j := 6) (a := 0) (ck_at dt_P_find 16 rfl) own_P_find (cf_at 59 rfl) rfl rfl ⟨(SH.o hS2 ⟨by decide, by decide, by decide⟩), ?_⟩
  refine y_ldk (ok := q_isA) (n := 3) (ck_at dt_P_find 17 rfl) rfl rfl (fun _ => rfl) rfl rfl ?_
  refine y_ldk (ok := q_isA) (n := 4) (ck_at dt_P_find 18 rfl) rfl rfl (fun _ => rfl) rfl rfl ?_
  refine y_op (ck_at dt_P_find 19 rfl) rfl (o_const _) ?_
  refine y_virt (k' := n_Wa_prepare) (n := 0) (as := [.ref a3, .ref a4, iv 0]) (r := []) (ck_at dt_P_find 20 rfl) own_P_find (cm_at 141 rfl) vk_Wa_prepare rfl nl_Wa_prepare rfl rfl rfl rfl ⟨(SH.o hS2 ⟨by decide, by decide, by decide⟩), ?_⟩
  exact w.mono (Nat.le_refl _) (fun o B' ⟨ho, hS', w⟩ => Or.inl ⟨none, ho, y_wk (c_P_find_40_ok (by omega) hS' ha4 w) ⟨rfl, ⟨rfl, trivial⟩⟩⟩)
def c_P_find_17 (h1 : qH) (d : Nat) (a3 : Nat) (a4 : Nat) (B : qB) (Q : qO → qB → Prop) : Prop := qY h1 d n_P_needShort 0 [some (.ref a4)] [] B (fun o B' => (o = .inl none ∧ SH B' ∧ c_P_find_22 h1 d a3 a4 B' Q) ∨ ∃ E, o = .inr E ∧ Q (.inr E) B')
theorem c_P_find_17_ok {h1 : qH} {d : Nat} {a3 : Nat} {a4 : Nat} {B : qB} {Q : qO → qB → Prop} (hd : 2 ≤ d) (hS : SH B) (ha3 : ob 5 a3) (ha4 : ob 1 a4) (w : c_P_find_17 h1 d a3 a4 B Q) : qY h1 (d + 1) n_P_find 17 [some (.ref 0), none, none, some (.ref a3), some (.ref a4), none, none] [] B Q := by
  unfold c_P_find_17 at w
  refine y_ldk (ok := q_isA) (n := 4) (ck_at dt_P_find 10 rfl) rfl rfl (fun _ => rfl) rfl rfl ?_
  refine y_stat (k' := n_P_needShort) (n := 0) (as := [.ref a4]) (r := []) (ck_at dt_P_find 11 rfl) own_P_find (cm_at 146 rfl) (cs_at 32 rfl) vk_P_needShort rfl nl_P_needShort rfl rfl rfl rfl ?_
  exact w.mono (Nat.le_refl _) (fun o B' w => w.elim (fun ⟨ho, hS', w⟩ => Or.inl ⟨none, ho, y_wk (c_P_find_22_ok (by omega) hS' ha3 ha4 w) ⟨rfl, ⟨rfl, ⟨rfl, trivial⟩⟩⟩⟩) Or.inr)
def c_P_find_11 (h1 : qH) (d : Nat) (a3 : Nat) (r0 : Nat) (B : qB) (Q : qO → qB → Prop) : Prop := qY h1 d n_P_needPattern 0 [some (.ref a3)] [] B (fun o B' => (o = .inl none ∧ SH B' ∧ c_P_find_17 h1 d a3 r0 B' Q) ∨ ∃ E, o = .inr E ∧ Q (.inr E) B')
theorem c_P_find_11_ok {h1 : qH} {d : Nat} {a3 : Nat} {r0 : Nat} {B : qB} {Q : qO → qB → Prop} (hd : 2 ≤ d) (hS : SH B) (ha3 : ob 5 a3) (hr0 : ob 1 r0) (w : c_P_find_11 h1 d a3 r0 B Q) : qY h1 (d + 1) n_P_find 11 [some (.ref 0), none, none, some (.ref a3), none, none, none] [.ref r0] B Q := by
  unfold c_P_find_11 at w
  refine y_st1 (ok := q_isA) (n := 4) (L' := [some (.ref 0), none, none, some (.ref a3), some (.ref r0), none, none]) (ck_at dt_P_find 7 rfl) rfl (fun _ => rfl) (fun _ _ => rfl) rfl nl_P_find (by decide) rfl rfl ?_
  refine y_ldk (ok := q_isA) (n := 3) (ck_at dt_P_find 8 rfl) rfl rfl (fun _ => rfl) rfl rfl ?_
  refine y_stat (k' := n_P_needPattern) (n := 0) (as := [.ref a3]) (r := []) (ck_at dt_P_find 9 rfl) own_P_find (cm_at 140 rfl) (cs_at 30 rfl) vk_P_needPattern rfl nl_P_needPattern rfl rfl rfl rfl ?_
  exact w.mono (Nat.le_refl _) (fun o B' w => w.elim (fun ⟨ho, hS', w⟩ => Or.inl ⟨none, ho, y_wk (c_P_find_17_ok (by omega) hS' ha3 hr0 w) ⟨rfl, ⟨rfl, ⟨rfl, trivial⟩⟩⟩⟩) Or.inr)
def c_P_find_5 (h1 : qH) (d : Nat) (x2 : Int) (r0 : Nat) (B : qB) (Q : qO → qB → Prop) : Prop := qY h1 d n_P_textAt 0 [some (.ref 0), some (iv x2)] [] B (fun o B' => (∃ v : Nat, o = .inl (some (.ref v)) ∧ ob 1 v ∧ SH B' ∧ c_P_find_11 h1 d r0 v B' Q) ∨ ∃ E, o = .inr E ∧ Q (.inr E) B')
theorem c_P_find_5_ok {h1 : qH} {d : Nat} {x2 : Int} {r0 : Nat} {B : qB} {Q : qO → qB → Prop} (hd : 2 ≤ d) (hS : SH B) (hr0 : ob 5 r0) (w : c_P_find_5 h1 d x2 r0 B Q) : qY h1 (d + 1) n_P_find 5 [some (.ref 0), none, some (iv x2), none, none, none, none] [.ref r0] B Q := by
  unfold c_P_find_5 at w
  refine y_st1 (ok := q_isA) (n := 3) (L' := [some (.ref 0), none, some (iv x2), some (.ref r0), none, none, none]) (ck_at dt_P_find 3 rfl) rfl (fun _ => rfl) (fun _ _ => rfl) rfl nl_P_find (by decide) rfl rfl ?_
  refine y_ldk (ok := q_isA) (n := 0) (ck_at dt_P_find 4 rfl) rfl rfl (fun _ => rfl) rfl rfl ?_
  refine y_ldk (ok := q_isI) (n := 2) (ck_at dt_P_find 5 rfl) rfl rfl (fun _ => rfl) rfl rfl ?_
  refine y_virt (k' := n_P_textAt) (n := 0) (as := [iv x2]) (r := []) (ck_at dt_P_find 6 rfl) own_P_find (cm_at 138 rfl) vk_P_textAt rfl nl_P_textAt rfl rfl rfl rfl ⟨(SH.o hS ⟨by decide, by decide, by decide⟩), ?_⟩
  exact w.mono (Nat.le_refl _) (fun o B' w => w.elim (fun ⟨v, ho, hov, hS', w⟩ => Or.inl ⟨some (.ref v), ho, y_wk (c_P_find_11_ok (by omega) hS' hr0 hov w) ⟨rfl, ⟨rfl, trivial⟩⟩⟩) Or.inr)
def c_P_find_0 (h1 : qH) (d : Nat) (x1 : Int) (x2 : Int) (B : qB) (Q : qO → qB → Prop) : Prop := qY h1 d n_P_programAt 0 [some (.ref 0), some (iv x1)] [] B (fun o B' => (∃ v : Nat, o = .inl (some (.ref v)) ∧ ob 5 v ∧ SH B' ∧ c_P_find_5 h1 d x2 v B' Q) ∨ ∃ E, o = .inr E ∧ Q (.inr E) B')
theorem c_P_find_0_ok {h1 : qH} {d : Nat} {x1 : Int} {x2 : Int} {B : qB} {Q : qO → qB → Prop} (hd : 2 ≤ d) (hS : SH B) (w : c_P_find_0 h1 d x1 x2 B Q) : qY h1 (d + 1) n_P_find 0 [some (.ref 0), some (iv x1), some (iv x2), none, none, none, none] [] B Q := by
  unfold c_P_find_0 at w
  refine y_ldk (ok := q_isA) (n := 0) (ck_at dt_P_find 0 rfl) rfl rfl (fun _ => rfl) rfl rfl ?_
  refine y_ldk (ok := q_isI) (n := 1) (ck_at dt_P_find 1 rfl) rfl rfl (fun _ => rfl) rfl rfl ?_
  refine y_virt (k' := n_P_programAt) (n := 0) (as := [iv x1]) (r := []) (ck_at dt_P_find 2 rfl) own_P_find (cm_at 131 rfl) vk_P_programAt rfl nl_P_programAt rfl rfl rfl rfl ⟨(SH.o hS ⟨by decide, by decide, by decide⟩), ?_⟩
  exact w.mono (Nat.le_refl _) (fun o B' w => w.elim (fun ⟨v, ho, hov, hS', w⟩ => Or.inl ⟨some (.ref v), ho, y_wk (c_P_find_5_ok (by omega) hS' hov w) ⟨rfl, ⟨rfl, trivial⟩⟩⟩) Or.inr)
/-! PatternTrier.replace(II)I -/
def t_P_replace : List (Nat × Instr × Nat) := [(0, .aload_n 0, 1), (1, .invokevirtual 118, 3), (4, .astore_n 3, 1), (5, .aload_n 0, 1), (6, .iconst (-1), 1), (7, .putfield 89, 3), (10, .aload_n 0, 1), (11, .iload_n 1, 1), (12, .invokevirtual 122, 3), (15, .astore 4, 2), (17, .aload_n 0, 1), (18, .iload_n 2, 1), (19, .invokevirtual 153, 3), (22, .astore 5, 2), (24, .aload 4, 2), (26, .invokestatic 165, 3), (29, .aload 5, 2), (31, .invokestatic 191, 3), (34, .aload_n 0, 1), (35, .aload_n 3, 1), (36, .invokestatic 213, 3), (39, .putfield 89, 3), (42, .aload_n 0, 1), (43, .getfield 89, 3), (46, .iconst (-1), 1), (47, .if_icmp .eq 13, 3), (50, .new 130, 3), (53, .dup, 1), (54, .ldc 216, 2), (56, .invokespecial 134, 3), (59, .athrow, 1), (60, .aload_n 0, 1), (61, .aload 4, 2), (63, .aload 5, 2), (65, .aload_n 3, 1), (66, .invokevirtual 218, 3), (69, .ifCond .ne 13, 3), (72, .new 222, 3), (75, .dup, 1), (76, .ldc 224, 2), (78, .invokespecial 226, 3), (81, .athrow, 1), (82, .aload_n 0, 1), (83, .invokevirtual 227, 3), (86, .aload 5, 2), (88, .aload_n 0, 1), (89, .getfield 42, 3), (92, .invokevirtual 159, 3), (95, .aload 5, 2), (97, .invokevirtual 107, 3), (100, .ireturn, 1)]
set_option maxRecDepth 100000 in
theorem dt_P_replace : q_ck n_P_replace t_P_replace = true := by decide +kernel
set_option maxRecDepth 100000 in
theorem th_P_replace_50 (st : List Value) : q_throw (q_ms n_P_replace).2.1 (q_ms n_P_replace).2.2.1 50 (.new 130) [] = some "java/lang/UnsupportedOperationException" := by decide +kernel
set_option maxRecDepth 100000 in
theorem th_P_replace_72 (st : List Value) : q_throw (q_ms n_P_replace).2.1 (q_ms n_P_replace).2.2.1 72 (.new 222) [] = some "java/lang/IllegalStateException" := by decide +kernel
def c_P_replace_95 (h1 : qH) (d : Nat) (a5 : Nat) (B : qB) (Q : qO → qB → Prop) : Prop := Q (.inl (some (iv (B a5 1)))) B
theorem c_P_replace_95_ok {h1 : qH} {d : Nat} {a5 : Nat} {B : qB} {Q : qO → qB → Prop} (hd : 1 ≤ d) (hS : SH B) (ha5 : ob 1 a5) (w : c_P_replace_95 h1 d a5 B Q) : qY h1 (d + 1) n_P_replace 95 [none, none, none, none, none, some (.ref a5)] [] B Q := by
  unfold c_P_replace_95 at w
  refine y_ldk (ok := q_isA) (n := 5) (ck_at dt_P_replace 48 rfl) rfl rfl (fun _ => rfl) rfl rfl ?_
  refine y_virtP (k' := n_By_size) (n := 0) (as := []) (r := []) (ck_at dt_P_replace 49 rfl) own_P_replace (cm_at 128 rfl) vk_By_size rfl nl_By_size rfl rfl rfl rfl (SH.o hS ha5) (Y_By_size (by omega) hS ha5 ⟨rfl, rfl⟩) ?_
  exact y_retI (ck_at dt_P_replace 50 rfl) rt_P_replace w
def c_P_replace_86 (h1 : qH) (d : Nat) (a5 : Nat) (B : qB) (Q : qO → qB → Prop) : Prop := qY h1 d n_By_copy 0 [some (.ref a5), some (.ref 88)] [] B (fun o B' => o = .inl none ∧ SH B' ∧ c_P_replace_95 h1 d a5 B' Q)
theorem c_P_replace_86_ok {h1 : qH} {d : Nat} {a5 : Nat} {B : qB} {Q : qO → qB → Prop} (hd : 1 ≤ d) (hS : SH B) (ha5 : ob 1 a5) (w : c_P_replace_86 h1 d a5 B Q) : qY h1 (d + 1) n_P_replace 86 [some (.ref 0), none, none, none, none, some (.ref a5)] [] B Q := by
  unfold c_P_replace_86 at w
  refine y_ldk (ok := q_isA) (n := 5) (ck_at dt_P_replace 44 rfl) rfl rfl (fun _ => rfl) rfl rfl ?_
  refine y_ldk (ok := q_isA) (n := 0) (ck_at dt_P_replace 45 rfl) rfl rfl (fun _ => rfl) rfl rfl ?_
  refine y_getF (r := 88) (K := 10) (j := 7) (a := 0) (ck_at dt_P_replace 46 rfl) own_P_replace (cf_at 55 rfl) rfl rfl ⟨(SH.o hS ⟨by decide, by decide, by decide⟩), ?_⟩
  refine y_virt (k' := n_By_copy) (n := 0) (as := [.ref 88]) (r := []) (ck_at dt_P_replace 47 rfl) own_P_replace (cm_at 139 rfl) vk_By_copy rfl nl_By_copy rfl rfl rfl rfl ⟨(SH.o hS ha5), ?_⟩
  exact w.mono (Nat.le_refl _) (fun o B' ⟨ho, hS', w⟩ => Or.inl ⟨none, ho, y_wk (c_P_replace_95_ok (by omega) hS' ha5 w) ⟨rfl, trivial⟩⟩)
def c_P_replace_69 (h1 : qH) (d : Nat) (a5 : Nat) (s0 : Int) (B : qB) (Q : qO → qB → Prop) : Prop := R32 s0 ∧ (¬ s0 = 0 → qY h1 d n_P_swapFound 0 [some (.ref 0), none] [] B (fun o B' => o = .inl none ∧ SH B' ∧ c_P_replace_86 h1 d a5 B' Q)) ∧ (s0 = 0 → (B 2000000000 (-1) = 0 ∧ 0 ≤ B 2000000000 0 ∧ 0 ≤ B 2000000000 1) ∧ Q (.inr "java/lang/IllegalStateException") (thC B))
theorem c_P_replace_69_ok {h1 : qH} {d : Nat} {a5 : Nat} {s0 : Int} {B : qB} {Q : qO → qB → Prop} (hd : 1 ≤ d) (hS : SH B) (ha5 : ob 1 a5) (w : c_P_replace_69 h1 d a5 s0 B Q) : qY h1 (d + 1) n_P_replace 69 [some (.ref 0), none, none, none, none, some (.ref a5)] [iv s0] B Q := by
  unfold c_P_replace_69 at w
  obtain ⟨p1, w⟩ := w
  refine y_ifz (t := 82) (ck_at dt_P_replace 36 rfl) rfl p1 ?_ ?_
  · intro q; have w := w.1 q
    refine y_ldk (ok := q_isA) (n := 0) (ck_at dt_P_replace 42 rfl) rfl rfl (fun _ => rfl) rfl rfl ?_
    refine y_virt (k' := n_P_swapFound) (n := 1) (as := []) (r := []) (ck_at dt_P_replace 43 rfl) own_P_replace (cm_at 154 rfl) vk_P_swapFound rfl nl_P_swapFound rfl rfl rfl rfl ⟨(SH.o hS ⟨by decide, by decide, by decide⟩), ?_⟩
    exact w.mono (Nat.le_refl _) (fun o B' ⟨ho, hS', w⟩ => Or.inl ⟨none, ho, y_wk (c_P_replace_86_ok (by omega) hS' ha5 w) ⟨rfl, ⟨rfl, trivial⟩⟩⟩)
  · intro q; have w := w.2 q
    exact y_throw (st := []) (E := "java/lang/IllegalStateException") (ck_at dt_P_replace 37 rfl) (mem_222 own_P_replace) (th_P_replace_72 []) w
def c_P_replace_39 (h1 : qH) (d : Nat) (a3 : Nat) (a4 : Nat) (a5 : Nat) (s1 : Int) (B : qB) (Q : qO → qB → Prop) : Prop := R32 s1 ∧ (s1 = (-1) → qY h1 d n_P_writeReplaced 0 [some (.ref 0), some (.ref a4), some (.ref a5), some (.ref a3), none, none, none, none] [] (u2 B 0 12 s1) (fun o B' => ∃ v : Int, o = .inl (some (iv v)) ∧ SH B' ∧ c_P_replace_69 h1 d a5 v B' Q)) ∧ (¬ s1 = (-1) → ((u2 B 0 12 s1) 2000000000 (-1) = 0 ∧ 0 ≤ (u2 B 0 12 s1) 2000000000 0 ∧ 0 ≤ (u2 B 0 12 s1) 2000000000 1) ∧ Q (.inr "java/lang/UnsupportedOperationException") (thC (u2 B 0 12 s1)))
theorem c_P_replace_39_ok {h1 : qH} {d : Nat} {a3 : Nat} {a4 : Nat} {a5 : Nat} {s1 : Int} {B : qB} {Q : qO → qB → Prop} (hd : 1 ≤ d) (hS : SH B) (ha3 : ob 1 a3) (ha4 : ob 5 a4) (ha5 : ob 1 a5) (w : c_P_replace_39 h1 d a3 a4 a5 s1 B Q) : qY h1 (d + 1) n_P_replace 39 [some (.ref 0), none, none, some (.ref a3), some (.ref a4), some (.ref a5)] [iv s1, .ref 0] B Q := by
  unfold c_P_replace_39 at w
  obtain ⟨p2, w⟩ := w
  refine y_putI (K := 10) (j := 12) (a := 0) (ck_at dt_P_replace 21 rfl) own_P_replace (cf_at 62 rfl) rfl rfl rfl rfl rfl ⟨⟨SH.o hS ⟨by decide, by decide, by decide⟩, by decide⟩, ?_⟩
  have hS1 := SH_u2 (b := 0) (x := 12) (z := s1) hS (by decide)
  refine y_ldk (ok := q_isA) (n := 0) (ck_at dt_P_replace 22 rfl) rfl rfl (fun _ => rfl) rfl rfl ?_
  refine y_getI (K := 10) (j := 12) (a := 0) (ck_at dt_P_replace 23 rfl) own_P_replace (cf_at 62 rfl) rfl rfl rfl ⟨(SH.o hS1 ⟨by decide, by decide, by decide⟩), ?_⟩
  refine y_op (ck_at dt_P_replace 24 rfl) rfl (o_const _) ?_
  refine y_icmp (t := 60) (ck_at dt_P_replace 25 rfl) rfl p2 ⟨by decide, by decide⟩ ?_ ?_
  · intro q; have w := w.1 q
    refine y_ldk (ok := q_isA) (n := 0) (ck_at dt_P_replace 31 rfl) rfl rfl (fun _ => rfl) rfl rfl ?_
    refine y_ldk (ok := q_isA) (n := 4) (ck_at dt_P_replace 32 rfl) rfl rfl (fun _ => rfl) rfl rfl ?_
    refine y_ldk (ok := q_isA) (n := 5) (ck_at dt_P_replace 33 rfl) rfl rfl (fun _ => rfl) rfl rfl ?_
    refine y_ldk (ok := q_isA) (n := 3) (ck_at dt_P_replace 34 rfl) rfl rfl (fun _ => rfl) rfl rfl ?_
    refine y_virt (k' := n_P_writeReplaced) (n := 4) (as := [.ref a4, .ref a5, .ref a3]) (r := []) (ck_at dt_P_replace 35 rfl) own_P_replace (cm_at 153 rfl) vk_P_writeReplaced rfl nl_P_writeReplaced rfl rfl rfl rfl ⟨(SH.o hS1 ⟨by decide, by decide, by decide⟩), ?_⟩
    exact w.mono (Nat.le_refl _) (fun o B' ⟨v, ho, hS', w⟩ => Or.inl ⟨some (iv v), ho, y_wk (c_P_replace_69_ok (by omega) hS' ha5 w) ⟨rfl, ⟨rfl, trivial⟩⟩⟩)
  · intro q; have w := w.2 q
    exact y_throw (st := []) (E := "java/lang/UnsupportedOperationException") (ck_at dt_P_replace 26 rfl) (mem_130 own_P_replace) (th_P_replace_50 []) w
def c_P_replace_34 (h1 : qH) (d : Nat) (a3 : Nat) (a4 : Nat) (a5 : Nat) (B : qB) (Q : qO → qB → Prop) : Prop := qY h1 d n_P_wrongPlace 0 [some (.ref a3), none, none] [] B (fun o B' => ∃ v : Int, o = .inl (some (iv v)) ∧ SH B' ∧ c_P_replace_39 h1 d a3 a4 a5 v B' Q)
theorem c_P_replace_34_ok {h1 : qH} {d : Nat} {a3 : Nat} {a4 : Nat} {a5 : Nat} {B : qB} {Q : qO → qB → Prop} (hd : 1 ≤ d) (hS : SH B) (ha3 : ob 1 a3) (ha4 : ob 5 a4) (ha5 : ob 1 a5) (w : c_P_replace_34 h1 d a3 a4 a5 B Q) : qY h1 (d + 1) n_P_replace 34 [some (.ref 0), none, none, some (.ref a3), some (.ref a4), some (.ref a5)] [] B Q := by
  unfold c_P_replace_34 at w
  refine y_ldk (ok := q_isA) (n := 0) (ck_at dt_P_replace 18 rfl) rfl rfl (fun _ => rfl) rfl rfl ?_
  refine y_ldk (ok := q_isA) (n := 3) (ck_at dt_P_replace 19 rfl) rfl rfl (fun _ => rfl) rfl rfl ?_
  refine y_stat (k' := n_P_wrongPlace) (n := 2) (as := [.ref a3]) (r := [.ref 0]) (ck_at dt_P_replace 20 rfl) own_P_replace (cm_at 152 rfl) (cs_at 33 rfl) vk_P_wrongPlace rfl nl_P_wrongPlace rfl rfl rfl rfl ?_
  exact w.mono (Nat.le_refl _) (fun o B' ⟨v, ho, hS', w⟩ => Or.inl ⟨some (iv v), ho, y_wk (c_P_replace_39_ok (by omega) hS' ha3 ha4 ha5 w) ⟨rfl, ⟨rfl, ⟨rfl, ⟨rfl, trivial⟩⟩⟩⟩⟩)
def c_P_replace_29 (h1 : qH) (d : Nat) (a3 : Nat) (a4 : Nat) (a5 : Nat) (B : qB) (Q : qO → qB → Prop) : Prop := qY h1 d n_P_needShort 0 [some (.ref a5)] [] B (fun o B' => (o = .inl none ∧ SH B' ∧ c_P_replace_34 h1 d a3 a4 a5 B' Q) ∨ ∃ E, o = .inr E ∧ Q (.inr E) B')
theorem c_P_replace_29_ok {h1 : qH} {d : Nat} {a3 : Nat} {a4 : Nat} {a5 : Nat} {B : qB} {Q : qO → qB → Prop} (hd : 1 ≤ d) (hS : SH B) (ha3 : ob 1 a3) (ha4 : ob 5 a4) (ha5 : ob 1 a5) (w : c_P_replace_29 h1 d a3 a4 a5 B Q) : qY h1 (d + 1) n_P_replace 29 [some (.ref 0), none, none, some (.ref a3), some (.ref a4), some (.ref a5)] [] B Q := by
  unfold c_P_replace_29 at w
  refine y_ldk (ok := q_isA) (n := 5) (ck_at dt_P_replace 16 rfl) rfl rfl (fun _ => rfl) rfl rfl ?_
  refine y_stat (k' := n_P_needShort) (n := 0) (as := [.ref a5]) (r := []) (ck_at dt_P_replace 17 rfl) own_P_replace (cm_at 146 rfl) (cs_at 32 rfl) vk_P_needShort rfl nl_P_needShort rfl rfl rfl rfl ?_
  exact w.mono (Nat.le_refl _) (fun o B' w => w.elim (fun ⟨ho, hS', w⟩ => Or.inl ⟨none, ho, y_wk (c_P_replace_34_ok (by omega) hS' ha3 ha4 ha5 w) ⟨rfl, ⟨rfl, ⟨rfl, ⟨rfl, trivial⟩⟩⟩⟩⟩) Or.inr)
def c_P_replace_22 (h1 : qH) (d : Nat) (a3 : Nat) (a4 : Nat) (r0 : Nat) (B : qB) (Q : qO → qB → Prop) : Prop := qY h1 d n_P_needPattern 0 [some (.ref a4)] [] B (fun o B' => (o = .inl none ∧ SH B' ∧ c_P_replace_29 h1 d a3 a4 r0 B' Q) ∨ ∃ E, o = .inr E ∧ Q (.inr E) B')
theorem c_P_replace_22_ok {h1 : qH} {d : Nat} {a3 : Nat} {a4 : Nat} {r0 : Nat} {B : qB} {Q : qO → qB → Prop} (hd : 1 ≤ d) (hS : SH B) (ha3 : ob 1 a3) (ha4 : ob 5 a4) (hr0 : ob 1 r0) (w : c_P_replace_22 h1 d a3 a4 r0 B Q) : qY h1 (d + 1) n_P_replace 22 [some (.ref 0), none, none, some (.ref a3), some (.ref a4), none] [.ref r0] B Q := by
  unfold c_P_replace_22 at w
  refine y_st1 (ok := q_isA) (n := 5) (L' := [some (.ref 0), none, none, some (.ref a3), some (.ref a4), some (.ref r0)]) (ck_at dt_P_replace 13 rfl) rfl (fun _ => rfl) (fun _ _ => rfl) rfl nl_P_replace (by decide) rfl rfl ?_
  refine y_ldk (ok := q_isA) (n := 4) (ck_at dt_P_replace 14 rfl) rfl rfl (fun _ => rfl) rfl rfl ?_
  refine y_stat (k' := n_P_needPattern) (n := 0) (as := [.ref a4]) (r := []) (ck_at dt_P_replace 15 rfl) own_P_replace (cm_at 140 rfl) (cs_at 30 rfl) vk_P_needPattern rfl nl_P_needPattern rfl rfl rfl rfl ?_
  exact w.mono (Nat.le_refl _) (fun o B' w => w.elim (fun ⟨ho, hS', w⟩ => Or.inl ⟨none, ho, y_wk (c_P_replace_29_ok (by omega) hS' ha3 ha4 hr0 w) ⟨rfl, ⟨rfl, ⟨rfl, ⟨rfl, trivial⟩⟩⟩⟩⟩) Or.inr)
def c_P_replace_15 (h1 : qH) (d : Nat) (x2 : Int) (a3 : Nat) (r0 : Nat) (B : qB) (Q : qO → qB → Prop) : Prop := qY h1 d n_P_textAt 0 [some (.ref 0), some (iv x2)] [] B (fun o B' => (∃ v : Nat, o = .inl (some (.ref v)) ∧ ob 1 v ∧ SH B' ∧ c_P_replace_22 h1 d a3 r0 v B' Q) ∨ ∃ E, o = .inr E ∧ Q (.inr E) B')
theorem c_P_replace_15_ok {h1 : qH} {d : Nat} {x2 : Int} {a3 : Nat} {r0 : Nat} {B : qB} {Q : qO → qB → Prop} (hd : 1 ≤ d) (hS : SH B) (ha3 : ob 1 a3) (hr0 : ob 5 r0) (w : c_P_replace_15 h1 d x2 a3 r0 B Q) : qY h1 (d + 1) n_P_replace 15 [some (.ref 0), none, some (iv x2), some (.ref a3), none, none] [.ref r0] B Q := by
  unfold c_P_replace_15 at w
  refine y_st1 (ok := q_isA) (n := 4) (L' := [some (.ref 0), none, some (iv x2), some (.ref a3), some (.ref r0), none]) (ck_at dt_P_replace 9 rfl) rfl (fun _ => rfl) (fun _ _ => rfl) rfl nl_P_replace (by decide) rfl rfl ?_
  refine y_ldk (ok := q_isA) (n := 0) (ck_at dt_P_replace 10 rfl) rfl rfl (fun _ => rfl) rfl rfl ?_
  refine y_ldk (ok := q_isI) (n := 2) (ck_at dt_P_replace 11 rfl) rfl rfl (fun _ => rfl) rfl rfl ?_
  refine y_virt (k' := n_P_textAt) (n := 0) (as := [iv x2]) (r := []) (ck_at dt_P_replace 12 rfl) own_P_replace (cm_at 138 rfl) vk_P_textAt rfl nl_P_textAt rfl rfl rfl rfl ⟨(SH.o hS ⟨by decide, by decide, by decide⟩), ?_⟩
  exact w.mono (Nat.le_refl _) (fun o B' w => w.elim (fun ⟨v, ho, hov, hS', w⟩ => Or.inl ⟨some (.ref v), ho, y_wk (c_P_replace_22_ok (by omega) hS' ha3 hr0 hov w) ⟨rfl, ⟨rfl, ⟨rfl, trivial⟩⟩⟩⟩) Or.inr)
def c_P_replace_4 (h1 : qH) (d : Nat) (x1 : Int) (x2 : Int) (r0 : Nat) (B : qB) (Q : qO → qB → Prop) : Prop := qY h1 d n_P_programAt 0 [some (.ref 0), some (iv x1)] [] (u2 B 0 12 (-1)) (fun o B' => (∃ v : Nat, o = .inl (some (.ref v)) ∧ ob 5 v ∧ SH B' ∧ c_P_replace_15 h1 d x2 r0 v B' Q) ∨ ∃ E, o = .inr E ∧ Q (.inr E) B')
theorem c_P_replace_4_ok {h1 : qH} {d : Nat} {x1 : Int} {x2 : Int} {r0 : Nat} {B : qB} {Q : qO → qB → Prop} (hd : 1 ≤ d) (hS : SH B) (hr0 : ob 1 r0) (w : c_P_replace_4 h1 d x1 x2 r0 B Q) : qY h1 (d + 1) n_P_replace 4 [some (.ref 0), some (iv x1), some (iv x2), none, none, none] [.ref r0] B Q := by
  unfold c_P_replace_4 at w
  refine y_st1 (ok := q_isA) (n := 3) (L' := [some (.ref 0), some (iv x1), some (iv x2), some (.ref r0), none, none]) (ck_at dt_P_replace 2 rfl) rfl (fun _ => rfl) (fun _ _ => rfl) rfl nl_P_replace (by decide) rfl rfl ?_
  refine y_ldk (ok := q_isA) (n := 0) (ck_at dt_P_replace 3 rfl) rfl rfl (fun _ => rfl) rfl rfl ?_
  refine y_op (ck_at dt_P_replace 4 rfl) rfl (o_const _) ?_
  refine y_putI (K := 10) (j := 12) (a := 0) (ck_at dt_P_replace 5 rfl) own_P_replace (cf_at 62 rfl) rfl rfl rfl rfl rfl ⟨⟨SH.o hS ⟨by decide, by decide, by decide⟩, by decide⟩, ?_⟩
  have hS1 := SH_u2 (b := 0) (x := 12) (z := (-1)) hS (by decide)
  refine y_ldk (ok := q_isA) (n := 0) (ck_at dt_P_replace 6 rfl) rfl rfl (fun _ => rfl) rfl rfl ?_
  refine y_ldk (ok := q_isI) (n := 1) (ck_at dt_P_replace 7 rfl) rfl rfl (fun _ => rfl) rfl rfl ?_
  refine y_virt (k' := n_P_programAt) (n := 0) (as := [iv x1]) (r := []) (ck_at dt_P_replace 8 rfl) own_P_replace (cm_at 131 rfl) vk_P_programAt rfl nl_P_programAt rfl rfl rfl rfl ⟨(SH.o hS1 ⟨by decide, by decide, by decide⟩), ?_⟩
  exact w.mono (Nat.le_refl _) (fun o B' w => w.elim (fun ⟨v, ho, hov, hS', w⟩ => Or.inl ⟨some (.ref v), ho, y_wk (c_P_replace_15_ok (by omega) hS' hr0 hov w) ⟨rfl, ⟨rfl, ⟨rfl, trivial⟩⟩⟩⟩) Or.inr)
def c_P_replace_0 (h1 : qH) (d : Nat) (x1 : Int) (x2 : Int) (B : qB) (Q : qO → qB → Prop) : Prop := qY h1 d n_P_takeTape 0 [some (.ref 0), none] [] B (fun o B' => ∃ v : Nat, o = .inl (some (.ref v)) ∧ ob 1 v ∧ SH B' ∧ c_P_replace_4 h1 d x1 x2 v B' Q)
theorem c_P_replace_0_ok {h1 : qH} {d : Nat} {x1 : Int} {x2 : Int} {B : qB} {Q : qO → qB → Prop} (hd : 1 ≤ d) (hS : SH B) (w : c_P_replace_0 h1 d x1 x2 B Q) : qY h1 (d + 1) n_P_replace 0 [some (.ref 0), some (iv x1), some (iv x2), none, none, none] [] B Q := by
  unfold c_P_replace_0 at w
  refine y_ldk (ok := q_isA) (n := 0) (ck_at dt_P_replace 0 rfl) rfl rfl (fun _ => rfl) rfl rfl ?_
  refine y_virt (k' := n_P_takeTape) (n := 1) (as := []) (r := []) (ck_at dt_P_replace 1 rfl) own_P_replace (cm_at 130 rfl) vk_P_takeTape rfl nl_P_takeTape rfl rfl rfl rfl ⟨(SH.o hS ⟨by decide, by decide, by decide⟩), ?_⟩
  exact w.mono (Nat.le_refl _) (fun o B' ⟨v, ho, hov, hS', w⟩ => Or.inl ⟨some (.ref v), ho, y_wk (c_P_replace_4_ok (by omega) hS' hov w) ⟨rfl, ⟨rfl, ⟨rfl, trivial⟩⟩⟩⟩)
/-! PatternTrier.writeReplaced(LPatternTrier$Program;LPatternTrier$Bytes;LPatternTrier$Bytes;)Z -/
def t_P_writeReplaced : List (Nat × Instr × Nat) := [(0, .aload_n 0, 1), (1, .getfield 86, 3), (4, .invokevirtual 194, 3), (7, .aload_n 0, 1), (8, .getfield 42, 3), (11, .iconst 0, 1), (12, .invokevirtual 115, 3), (15, .aload_n 0, 1), (16, .getfield 75, 3), (19, .aload_n 1, 1), (20, .aload_n 2, 1), (21, .iconst 0, 1), (22, .invokevirtual 171, 3), (25, .iconst 1, 1), (26, .istore 4, 2), (28, .iconst 0, 1), (29, .istore 5, 2), (31, .iconst 0, 1), (32, .istore 6, 2), (34, .iconst 0, 1), (35, .istore 7, 2), (37, .iload 7, 2), (39, .sipush 300, 3), (42, .if_icmp .gt 109, 3), (45, .iload 4, 2), (47, .ifCond .eq 104, 3), (50, .aload_n 0, 1), (51, .getfield 75, 3), (54, .iload 6, 2), (56, .aload_n 2, 1), (57, .invokevirtual 107, 3), (60, .invokevirtual 175, 3), (63, .ifCond .eq 88, 3), (66, .aload_n 0, 1), (67, .getfield 86, 3), (70, .aload_n 0, 1), (71, .getfield 75, 3), (74, .iconst 0, 1), (75, .invokevirtual 183, 3), (78, .aload_n 0, 1), (79, .getfield 75, 3), (82, .iconst 1, 1), (83, .invokevirtual 183, 3), (86, .invokevirtual 197, 3), (89, .aload_n 0, 1), (90, .getfield 42, 3), (93, .aload_n 2, 1), (94, .iload 5, 2), (96, .aload_n 0, 1), (97, .getfield 75, 3), (100, .iconst 0, 1), (101, .invokevirtual 183, 3), (104, .invokevirtual 275, 3), (107, .ifCond .eq 16, 3), (110, .aload_n 0, 1), (111, .aload_n 2, 1), (112, .aload_n 3, 1), (113, .invokevirtual 279, 3), (116, .ifCond .eq 7, 3), (119, .iconst 1, 1), (120, .goto 4, 3), (123, .iconst 0, 1), (124, .istore 4, 2), (126, .aload_n 0, 1), (127, .getfield 75, 3), (130, .iconst 1, 1), (131, .invokevirtual 183, 3), (134, .istore 5, 2), (136, .aload_n 0, 1), (137, .getfield 75, 3), (140, .invokevirtual 201, 3), (143, .istore 6, 2), (145, .iinc 7 1, 3), (148, .goto (-111), 3), (151, .iload 4, 2), (153, .ifCond .eq 24, 3), (156, .aload_n 0, 1), (157, .getfield 42, 3), (160, .aload_n 2, 1), (161, .iload 5, 2), (163, .aload_n 2, 1), (164, .invokevirtual 107, 3), (167, .invokevirtual 275, 3), (170, .ifCond .eq 7, 3), (173, .iconst 1, 1), (174, .goto 4, 3), (177, .iconst 0, 1), (178, .ireturn, 1)]
set_option maxRecDepth 100000 in
theorem dt_P_writeReplaced : q_ck n_P_writeReplaced t_P_writeReplaced = true := by decide +kernel
def c_P_writeReplaced_170 (h1 : qH) (d : Nat) (s0 : Int) (B : qB) (Q : qO → qB → Prop) : Prop := R32 s0 ∧ (s0 = 0 → Q (.inl (some (iv 0))) B) ∧ (¬ s0 = 0 → Q (.inl (some (iv 1))) B)
theorem c_P_writeReplaced_170_ok {h1 : qH} {d : Nat} {s0 : Int} {B : qB} {Q : qO → qB → Prop} (hd : 2 ≤ d) (hS : SH B) (w : c_P_writeReplaced_170 h1 d s0 B Q) : qY h1 (d + 1) n_P_writeReplaced 170 [none, none, none, none, none, none, none, none] [iv s0] B Q := by
  unfold c_P_writeReplaced_170 at w
  obtain ⟨p1, w⟩ := w
  refine y_ifz (t := 177) (ck_at dt_P_writeReplaced 83 rfl) rfl p1 ?_ ?_
  · intro q; have w := w.1 q
    refine y_op (ck_at dt_P_writeReplaced 86 rfl) rfl (o_const _) ?_
    exact y_retZ (ck_at dt_P_writeReplaced 87 rfl) rt_P_writeReplaced (by decide) w
  · intro q; have w := w.2 q
    refine y_op (ck_at dt_P_writeReplaced 84 rfl) rfl (o_const _) ?_
    refine y_goto (t := 178) (ck_at dt_P_writeReplaced 85 rfl) rfl ?_
    exact y_retZ (ck_at dt_P_writeReplaced 87 rfl) rt_P_writeReplaced (by decide) w
def c_P_writeReplaced_151 (h1 : qH) (d : Nat) (a2 : Nat) (x4 : Int) (x5 : Int) (B : qB) (Q : qO → qB → Prop) : Prop := R32 x4 ∧ (x4 = 0 → Q (.inl (some (iv 0))) B) ∧ (¬ x4 = 0 → qY h1 d n_By_addPart 0 [some (.ref 88), some (.ref a2), some (iv x5), some (iv (B a2 1)), none] [] B (fun o B' => ∃ v : Int, o = .inl (some (iv v)) ∧ SH B' ∧ c_P_writeReplaced_170 h1 d v B' Q))
theorem c_P_writeReplaced_151_ok {h1 : qH} {d : Nat} {a2 : Nat} {x4 : Int} {x5 : Int} {B : qB} {Q : qO → qB → Prop} (hd : 2 ≤ d) (hS : SH B) (ha2 : ob 1 a2) (w : c_P_writeReplaced_151 h1 d a2 x4 x5 B Q) : qY h1 (d + 1) n_P_writeReplaced 151 [some (.ref 0), none, some (.ref a2), none, some (iv x4), some (iv x5), none, none] [] B Q := by
  unfold c_P_writeReplaced_151 at w
  obtain ⟨p1, w⟩ := w
  refine y_ldk (ok := q_isI) (n := 4) (ck_at dt_P_writeReplaced 74 rfl) rfl rfl (fun _ => rfl) rfl rfl ?_
  refine y_ifz (t := 177) (ck_at dt_P_writeReplaced 75 rfl) rfl p1 ?_ ?_
  · intro q; have w := w.1 q
    refine y_op (ck_at dt_P_writeReplaced 86 rfl) rfl (o_const _) ?_
    exact y_retZ (ck_at dt_P_writeReplaced 87 rfl) rt_P_writeReplaced (by decide) w
  · intro q; have w := w.2 q
    refine y_ldk (ok := q_isA) (n := 0) (ck_at dt_P_writeReplaced 76 rfl) rfl rfl (fun _ => rfl) rfl rfl ?_
    refine y_getF (r := 88) (K := 10) (j := 7) (a := 0) (ck_at dt_P_writeReplaced 77 rfl) own_P_writeReplaced (cf_at 55 rfl) rfl rfl ⟨(SH.o hS ⟨by decide, by decide, by decide⟩), ?_⟩
    refine y_ldk (ok := q_isA) (n := 2) (ck_at dt_P_writeReplaced 78 rfl) rfl rfl (fun _ => rfl) rfl rfl ?_
    refine y_ldk (ok := q_isI) (n := 5) (ck_at dt_P_writeReplaced 79 rfl) rfl rfl (fun _ => rfl) rfl rfl ?_
    refine y_ldk (ok := q_isA) (n := 2) (ck_at dt_P_writeReplaced 80 rfl) rfl rfl (fun _ => rfl) rfl rfl ?_
    refine y_virtP (k' := n_By_size) (n := 0) (as := []) (r := [iv x5, .ref a2, .ref 88]) (ck_at dt_P_writeReplaced 81 rfl) own_P_writeReplaced (cm_at 128 rfl) vk_By_size rfl nl_By_size rfl rfl rfl rfl (SH.o hS ha2) (Y_By_size (by omega) hS ha2 ⟨rfl, rfl⟩) ?_
    refine y_virt (k' := n_By_addPart) (n := 1) (as := [.ref a2, iv x5, iv (B a2 1)]) (r := []) (ck_at dt_P_writeReplaced 82 rfl) own_P_writeReplaced (cm_at 161 rfl) vk_By_addPart rfl nl_By_addPart rfl rfl rfl rfl ⟨(SH.o hS ⟨by decide, by decide, by decide⟩), ?_⟩
    exact w.mono (Nat.le_refl _) (fun o B' ⟨v, ho, hS', w⟩ => Or.inl ⟨some (iv v), ho, y_wk (c_P_writeReplaced_170_ok (by omega) hS' w) trivial⟩)
def c_P_writeReplaced_124 (h1 : qH) (d : Nat) (a2 : Nat) (a3 : Nat) (x7 : Int) (s0 : Int) (B : qB) (Q : qO → qB → Prop) : Prop := R32 (B 107 0) ∧ R32 (B 107 1) ∧ qY h1 (d + 1) n_P_writeReplaced 37 [some (.ref 0), none, some (.ref a2), some (.ref a3), some (iv s0), some (iv (B 107 1)), some (iv (plB B)), some (iv (x7 + 1))] [] B Q
theorem c_P_writeReplaced_124_ok {h1 : qH} {d : Nat} {a2 : Nat} {a3 : Nat} {x7 : Int} {s0 : Int} {B : qB} {Q : qO → qB → Prop} (hd : 2 ≤ d) (hS : SH B) (ha2 : ob 1 a2) (ha3 : ob 1 a3) (w : c_P_writeReplaced_124 h1 d a2 a3 x7 s0 B Q) : qY h1 (d + 1) n_P_writeReplaced 124 [some (.ref 0), none, some (.ref a2), some (.ref a3), none, none, none, some (iv x7)] [iv s0] B Q := by
  unfold c_P_writeReplaced_124 at w
  obtain ⟨p1, p2, w⟩ := w
  refine y_st1 (ok := q_isI) (n := 4) (L' := [some (.ref 0), none, some (.ref a2), some (.ref a3), some (iv s0), none, none, some (iv x7)]) (ck_at dt_P_writeReplaced 62 rfl) rfl (fun _ => rfl) (fun _ _ => rfl) rfl nl_P_writeReplaced (by decide) rfl rfl ?_
  refine y_ldk (ok := q_isA) (n := 0) (ck_at dt_P_writeReplaced 63 rfl) rfl rfl (fun _ => rfl) rfl rfl ?_
  refine y_getF (r := 102) (K := 10) (j := 6) (a := 0) (ck_at dt_P_writeReplaced 64 rfl) own_P_writeReplaced (cf_at 59 rfl) rfl rfl ⟨(SH.o hS ⟨by decide, by decide, by decide⟩), ?_⟩
  refine y_op (ck_at dt_P_writeReplaced 65 rfl) rfl (o_const _) ?_
  refine y_virtP (k' := n_Wa_mark) (n := 0) (as := [iv 1]) (r := []) (ck_at dt_P_writeReplaced 66 rfl) own_P_writeReplaced (cm_at 144 rfl) vk_Wa_mark rfl nl_Wa_mark rfl rfl rfl rfl (SH.o hS ⟨by decide, by decide, by decide⟩) (Y_Wa_mark (by omega) hS (by decide) (by decide) ⟨rfl, rfl⟩) ?_
  refine y_st1 (ok := q_isI) (n := 5) (L' := [some (.ref 0), none, some (.ref a2), some (.ref a3), some (iv s0), some (iv (B 107 1)), none, some (iv x7)]) (ck_at dt_P_writeReplaced 67 rfl) rfl (fun _ => rfl) (fun _ _ => rfl) rfl nl_P_writeReplaced (by decide) rfl rfl ?_
  refine y_ldk (ok := q_isA) (n := 0) (ck_at dt_P_writeReplaced 68 rfl) rfl rfl (fun _ => rfl) rfl rfl ?_
  refine y_getF (r := 102) (K := 10) (j := 6) (a := 0) (ck_at dt_P_writeReplaced 69 rfl) own_P_writeReplaced (cf_at 59 rfl) rfl rfl ⟨(SH.o hS ⟨by decide, by decide, by decide⟩), ?_⟩
  refine y_virtP (k' := n_Wa_placeBehind) (n := 0) (as := []) (r := []) (ck_at dt_P_writeReplaced 70 rfl) own_P_writeReplaced (cm_at 149 rfl) vk_Wa_placeBehind rfl nl_Wa_placeBehind rfl rfl rfl rfl (SH.o hS ⟨by decide, by decide, by decide⟩) (Y_Wa_placeBehind (by omega) hS p1 p2 ⟨rfl, rfl⟩) ?_
  refine y_st1 (ok := q_isI) (n := 6) (L' := [some (.ref 0), none, some (.ref a2), some (.ref a3), some (iv s0), some (iv (B 107 1)), some (iv (plB B)), some (iv x7)]) (ck_at dt_P_writeReplaced 71 rfl) rfl (fun _ => rfl) (fun _ _ => rfl) rfl nl_P_writeReplaced (by decide) rfl rfl ?_
  refine y_iinc (n := 7) (L' := [some (.ref 0), none, some (.ref a2), some (.ref a3), some (iv s0), some (iv (B 107 1)), some (iv (plB B)), some (iv (x7 + 1))]) (ck_at dt_P_writeReplaced 72 rfl) rfl nl_P_writeReplaced (by decide) rfl rfl ?_
  refine y_goto (t := 37) (ck_at dt_P_writeReplaced 73 rfl) rfl ?_
  exact y_wk w ⟨rfl, ⟨rfl, ⟨rfl, ⟨rfl, ⟨rfl, ⟨rfl, ⟨rfl, trivial⟩⟩⟩⟩⟩⟩⟩
def c_P_writeReplaced_123 (h1 : qH) (d : Nat) (a2 : Nat) (a3 : Nat) (x7 : Int) (B : qB) (Q : qO → qB → Prop) : Prop := c_P_writeReplaced_124 h1 d a2 a3 x7 0 B Q
theorem c_P_writeReplaced_123_ok {h1 : qH} {d : Nat} {a2 : Nat} {a3 : Nat} {x7 : Int} {B : qB} {Q : qO → qB → Prop} (hd : 2 ≤ d) (hS : SH B) (ha2 : ob 1 a2) (ha3 : ob 1 a3) (w : c_P_writeReplaced_123 h1 d a2 a3 x7 B Q) : qY h1 (d + 1) n_P_writeReplaced 123 [some (.ref 0), none, some (.ref a2), some (.ref a3), none, none, none, some (iv x7)] [] B Q := by
  unfold c_P_writeReplaced_123 at w
  refine y_op (ck_at dt_P_writeReplaced 61 rfl) rfl (o_const _) ?_
  exact y_wk (c_P_writeReplaced_124_ok (by omega) hS ha2 ha3 w) ⟨rfl, ⟨rfl, ⟨rfl, ⟨rfl, trivial⟩⟩⟩⟩
def c_P_writeReplaced_116 (h1 : qH) (d : Nat) (a2 : Nat) (a3 : Nat) (x7 : Int) (s0 : Int) (B : qB) (Q : qO → qB → Prop) : Prop := R32 s0 ∧ (s0 = 0 → c_P_writeReplaced_123 h1 d a2 a3 x7 B Q) ∧ (¬ s0 = 0 → c_P_writeReplaced_124 h1 d a2 a3 x7 1 B Q)
theorem c_P_writeReplaced_116_ok {h1 : qH} {d : Nat} {a2 : Nat} {a3 : Nat} {x7 : Int} {s0 : Int} {B : qB} {Q : qO → qB → Prop} (hd : 2 ≤ d) (hS : SH B) (ha2 : ob 1 a2) (ha3 : ob 1 a3) (w : c_P_writeReplaced_116 h1 d a2 a3 x7 s0 B Q) : qY h1 (d + 1) n_P_writeReplaced 116 [some (.ref 0), none, some (.ref a2), some (.ref a3), none, none, none, some (iv x7)] [iv s0] B Q := by
  unfold c_P_writeReplaced_116 at w
  obtain ⟨p1, w⟩ := w
  refine y_ifz (t := 123) (ck_at dt_P_writeReplaced 58 rfl) rfl p1 ?_ ?_
  · intro q; have w := w.1 q
    exact y_wk (c_P_writeReplaced_123_ok (by omega) hS ha2 ha3 w) ⟨rfl, ⟨rfl, ⟨rfl, ⟨rfl, trivial⟩⟩⟩⟩
  · intro q; have w := w.2 q
    refine y_op (ck_at dt_P_writeReplaced 59 rfl) rfl (o_const _) ?_
    refine y_goto (t := 124) (ck_at dt_P_writeReplaced 60 rfl) rfl ?_
    exact y_wk (c_P_writeReplaced_124_ok (by omega) hS ha2 ha3 w) ⟨rfl, ⟨rfl, ⟨rfl, ⟨rfl, trivial⟩⟩⟩⟩
def c_P_writeReplaced_107 (h1 : qH) (d : Nat) (a2 : Nat) (a3 : Nat) (x7 : Int) (s0 : Int) (B : qB) (Q : qO → qB → Prop) : Prop := R32 s0 ∧ (s0 = 0 → c_P_writeReplaced_123 h1 d a2 a3 x7 B Q) ∧ (¬ s0 = 0 → qY h1 d n_P_writeModel 0 [some (.ref 0), some (.ref a2), some (.ref a3), none, none, none] [] B (fun o B' => ∃ v : Int, o = .inl (some (iv v)) ∧ SH B' ∧ c_P_writeReplaced_116 h1 d a2 a3 x7 v B' Q))
theorem c_P_writeReplaced_107_ok {h1 : qH} {d : Nat} {a2 : Nat} {a3 : Nat} {x7 : Int} {s0 : Int} {B : qB} {Q : qO → qB → Prop} (hd : 2 ≤ d) (hS : SH B) (ha2 : ob 1 a2) (ha3 : ob 1 a3) (w : c_P_writeReplaced_107 h1 d a2 a3 x7 s0 B Q) : qY h1 (d + 1) n_P_writeReplaced 107 [some (.ref 0), none, some (.ref a2), some (.ref a3), none, none, none, some (iv x7)] [iv s0] B Q := by
  unfold c_P_writeReplaced_107 at w
  obtain ⟨p1, w⟩ := w
  refine y_ifz (t := 123) (ck_at dt_P_writeReplaced 53 rfl) rfl p1 ?_ ?_
  · intro q; have w := w.1 q
    exact y_wk (c_P_writeReplaced_123_ok (by omega) hS ha2 ha3 w) ⟨rfl, ⟨rfl, ⟨rfl, ⟨rfl, trivial⟩⟩⟩⟩
  · intro q; have w := w.2 q
    refine y_ldk (ok := q_isA) (n := 0) (ck_at dt_P_writeReplaced 54 rfl) rfl rfl (fun _ => rfl) rfl rfl ?_
    refine y_ldk (ok := q_isA) (n := 2) (ck_at dt_P_writeReplaced 55 rfl) rfl rfl (fun _ => rfl) rfl rfl ?_
    refine y_ldk (ok := q_isA) (n := 3) (ck_at dt_P_writeReplaced 56 rfl) rfl rfl (fun _ => rfl) rfl rfl ?_
    refine y_virt (k' := n_P_writeModel) (n := 3) (as := [.ref a2, .ref a3]) (r := []) (ck_at dt_P_writeReplaced 57 rfl) own_P_writeReplaced (cm_at 162 rfl) vk_P_writeModel rfl nl_P_writeModel rfl rfl rfl rfl ⟨(SH.o hS ⟨by decide, by decide, by decide⟩), ?_⟩
    exact w.mono (Nat.le_refl _) (fun o B' ⟨v, ho, hS', w⟩ => Or.inl ⟨some (iv v), ho, y_wk (c_P_writeReplaced_116_ok (by omega) hS' ha2 ha3 w) ⟨rfl, ⟨rfl, ⟨rfl, ⟨rfl, trivial⟩⟩⟩⟩⟩)
def c_P_writeReplaced_63 (h1 : qH) (d : Nat) (a2 : Nat) (a3 : Nat) (x4 : Int) (x5 : Int) (x7 : Int) (s0 : Int) (B : qB) (Q : qO → qB → Prop) : Prop := R32 s0 ∧ (s0 = 0 → c_P_writeReplaced_151 h1 d a2 x4 x5 B Q) ∧ (¬ s0 = 0 → ob 3 ((B 0 11).toNat) ∧ 0 ≤ B ((B 0 11).toNat) 1 ∧ B ((B 0 11).toNat) 1 ≤ 300 ∧ qY h1 d n_By_addPart 0 [some (.ref 88), some (.ref a2), some (iv x5), some (iv ((foC B ((B 0 11).toNat) (B 107 0) (B 107 1)) 107 0)), none] [] (foC B ((B 0 11).toNat) (B 107 0) (B 107 1)) (fun o B' => ∃ v : Int, o = .inl (some (iv v)) ∧ SH B' ∧ c_P_writeReplaced_107 h1 d a2 a3 x7 v B' Q))
theorem c_P_writeReplaced_63_ok {h1 : qH} {d : Nat} {a2 : Nat} {a3 : Nat} {x4 : Int} {x5 : Int} {x7 : Int} {s0 : Int} {B : qB} {Q : qO → qB → Prop} (hd : 2 ≤ d) (hS : SH B) (ha2 : ob 1 a2) (ha3 : ob 1 a3) (w : c_P_writeReplaced_63 h1 d a2 a3 x4 x5 x7 s0 B Q) : qY h1 (d + 1) n_P_writeReplaced 63 [some (.ref 0), none, some (.ref a2), some (.ref a3), some (iv x4), some (iv x5), none, some (iv x7)] [iv s0] B Q := by
  unfold c_P_writeReplaced_63 at w
  obtain ⟨p1, w⟩ := w
  refine y_ifz (t := 151) (ck_at dt_P_writeReplaced 32 rfl) rfl p1 ?_ ?_
  · intro q; have w := w.1 q
    exact y_wk (c_P_writeReplaced_151_ok (by omega) hS ha2 w) ⟨rfl, ⟨rfl, ⟨rfl, ⟨rfl, trivial⟩⟩⟩⟩
  · intro q; have w := w.2 q
    obtain ⟨p2, p3, p4, w⟩ := w
    refine y_ldk (ok := q_isA) (n := 0) (ck_at dt_P_writeReplaced 33 rfl) rfl rfl (fun _ => rfl) rfl rfl ?_
    refine y_getD (K := 10) (j := 11) (a := 0) (ck_at dt_P_writeReplaced 34 rfl) own_P_writeReplaced (cf_at 61 rfl) rfl rfl rfl ⟨(SH.o hS ⟨by decide, by decide, by decide⟩), ?_⟩
    refine y_ldk (ok := q_isA) (n := 0) (ck_at dt_P_writeReplaced 35 rfl) rfl rfl (fun _ => rfl) rfl rfl ?_
    refine y_getF (r := 102) (K := 10) (j := 6) (a := 0) (ck_at dt_P_writeReplaced 36 rfl) own_P_writeReplaced (cf_at 59 rfl) rfl rfl ⟨(SH.o hS ⟨by decide, by decide, by decide⟩), ?_⟩
    refine y_op (ck_at dt_P_writeReplaced 37 rfl) rfl (o_const _) ?_
    refine y_virtP (k' := n_Wa_mark) (n := 0) (as := [iv 0]) (r := [.ref ((B 0 11).toNat)]) (ck_at dt_P_writeReplaced 38 rfl) own_P_writeReplaced (cm_at 144 rfl) vk_Wa_mark rfl nl_Wa_mark rfl rfl rfl rfl (SH.o hS ⟨by decide, by decide, by decide⟩) (Y_Wa_mark (by omega) hS (by decide) (by decide) ⟨rfl, rfl⟩) ?_
    refine y_ldk (ok := q_isA) (n := 0) (ck_at dt_P_writeReplaced 39 rfl) rfl rfl (fun _ => rfl) rfl rfl ?_
    refine y_getF (r := 102) (K := 10) (j := 6) (a := 0) (ck_at dt_P_writeReplaced 40 rfl) own_P_writeReplaced (cf_at 59 rfl) rfl rfl ⟨(SH.o hS ⟨by decide, by decide, by decide⟩), ?_⟩
    refine y_op (ck_at dt_P_writeReplaced 41 rfl) rfl (o_const _) ?_
    refine y_virtP (k' := n_Wa_mark) (n := 0) (as := [iv 1]) (r := [iv (B 107 0), .ref ((B 0 11).toNat)]) (ck_at dt_P_writeReplaced 42 rfl) own_P_writeReplaced (cm_at 144 rfl) vk_Wa_mark rfl nl_Wa_mark rfl rfl rfl rfl (SH.o hS ⟨by decide, by decide, by decide⟩) (Y_Wa_mark (by omega) hS (by decide) (by decide) ⟨rfl, rfl⟩) ?_
    refine y_virtV (k' := n_Fo_add) (n := 0) (as := [iv (B 107 0), iv (B 107 1)]) (r := []) (ck_at dt_P_writeReplaced 43 rfl) own_P_writeReplaced (cm_at 148 rfl) vk_Fo_add rfl nl_Fo_add rfl rfl rfl rfl (SH.o hS p2) (Y_Fo_add (by omega) hS p2 p3 p4 ⟨rfl, rfl⟩) ?_
    have hS5 : SH (foC B ((B 0 11).toNat) (B 107 0) (B 107 1)) := S_Fo_add hS p2 p3 p4
    refine y_ldk (ok := q_isA) (n := 0) (ck_at dt_P_writeReplaced 44 rfl) rfl rfl (fun _ => rfl) rfl rfl ?_
    refine y_getF (r := 88) (K := 10) (j := 7) (a := 0) (ck_at dt_P_writeReplaced 45 rfl) own_P_writeReplaced (cf_at 55 rfl) rfl rfl ⟨(SH.o hS5 ⟨by decide, by decide, by decide⟩), ?_⟩
    refine y_ldk (ok := q_isA) (n := 2) (ck_at dt_P_writeReplaced 46 rfl) rfl rfl (fun _ => rfl) rfl rfl ?_
    refine y_ldk (ok := q_isI) (n := 5) (ck_at dt_P_writeReplaced 47 rfl) rfl rfl (fun _ => rfl) rfl rfl ?_
    refine y_ldk (ok := q_isA) (n := 0) (ck_at dt_P_writeReplaced 48 rfl) rfl rfl (fun _ => rfl) rfl rfl ?_
    refine y_getF (r := 102) (K := 10) (j := 6) (a := 0) (ck_at dt_P_writeReplaced 49 rfl) own_P_writeReplaced (cf_at 59 rfl) rfl rfl ⟨(SH.o hS5 ⟨by decide, by decide, by decide⟩), ?_⟩
    refine y_op (ck_at dt_P_writeReplaced 50 rfl) rfl (o_const _) ?_
    refine y_virtP (k' := n_Wa_mark) (n := 0) (as := [iv 0]) (r := [iv x5, .ref a2, .ref 88]) (ck_at dt_P_writeReplaced 51 rfl) own_P_writeReplaced (cm_at 144 rfl) vk_Wa_mark rfl nl_Wa_mark rfl rfl rfl rfl (SH.o hS5 ⟨by decide, by decide, by decide⟩) (Y_Wa_mark (by omega) hS5 (by decide) (by decide) ⟨rfl, rfl⟩) ?_
    refine y_virt (k' := n_By_addPart) (n := 1) (as := [.ref a2, iv x5, iv ((foC B ((B 0 11).toNat) (B 107 0) (B 107 1)) 107 0)]) (r := []) (ck_at dt_P_writeReplaced 52 rfl) own_P_writeReplaced (cm_at 161 rfl) vk_By_addPart rfl nl_By_addPart rfl rfl rfl rfl ⟨(SH.o hS5 ⟨by decide, by decide, by decide⟩), ?_⟩
    exact w.mono (Nat.le_refl _) (fun o B' ⟨v, ho, hS', w⟩ => Or.inl ⟨some (iv v), ho, y_wk (c_P_writeReplaced_107_ok (by omega) hS' ha2 ha3 w) ⟨rfl, ⟨rfl, ⟨rfl, ⟨rfl, trivial⟩⟩⟩⟩⟩)
def c_P_writeReplaced_37 (h1 : qH) (d : Nat) (a2 : Nat) (a3 : Nat) (x4 : Int) (x5 : Int) (x6 : Int) (x7 : Int) (B : qB) (Q : qO → qB → Prop) : Prop := R32 x7 ∧ (x7 > 300 → c_P_writeReplaced_151 h1 d a2 x4 x5 B Q) ∧ (x7 ≤ 300 → R32 x4 ∧ (x4 = 0 → c_P_writeReplaced_151 h1 d a2 x4 x5 B Q) ∧ (¬ x4 = 0 → qY h1 d n_Wa_tryPlaces 0 [some (.ref 102), some (iv x6), some (iv (B a2 1)), none, none] [] B (fun o B' => ∃ v : Int, o = .inl (some (iv v)) ∧ SH B' ∧ c_P_writeReplaced_63 h1 d a2 a3 x4 x5 x7 v B' Q)))
theorem c_P_writeReplaced_37_ok {h1 : qH} {d : Nat} {a2 : Nat} {a3 : Nat} {x4 : Int} {x5 : Int} {x6 : Int} {x7 : Int} {B : qB} {Q : qO → qB → Prop} (hd : 2 ≤ d) (hS : SH B) (ha2 : ob 1 a2) (ha3 : ob 1 a3) (w : c_P_writeReplaced_37 h1 d a2 a3 x4 x5 x6 x7 B Q) : qY h1 (d + 1) n_P_writeReplaced 37 [some (.ref 0), none, some (.ref a2), some (.ref a3), some (iv x4), some (iv x5), some (iv x6), some (iv x7)] [] B Q := by
  unfold c_P_writeReplaced_37 at w
  obtain ⟨p1, w⟩ := w
  refine y_ldk (ok := q_isI) (n := 7) (ck_at dt_P_writeReplaced 21 rfl) rfl rfl (fun _ => rfl) rfl rfl ?_
  refine y_op (ck_at dt_P_writeReplaced 22 rfl) rfl (o_sipush _ (by decide)) ?_
  refine y_icmp (t := 151) (ck_at dt_P_writeReplaced 23 rfl) rfl p1 ⟨by decide, by decide⟩ ?_ ?_
  · intro q; have w := w.1 q
    exact y_wk (c_P_writeReplaced_151_ok (by omega) hS ha2 w) ⟨rfl, ⟨rfl, ⟨rfl, ⟨rfl, trivial⟩⟩⟩⟩
  · intro q; have w := w.2 q
    obtain ⟨p2, w⟩ := w
    refine y_ldk (ok := q_isI) (n := 4) (ck_at dt_P_writeReplaced 24 rfl) rfl rfl (fun _ => rfl) rfl rfl ?_
    refine y_ifz (t := 151) (ck_at dt_P_writeReplaced 25 rfl) rfl p2 ?_ ?_
    · intro q; have w := w.1 q
      exact y_wk (c_P_writeReplaced_151_ok (by omega) hS ha2 w) ⟨rfl, ⟨rfl, ⟨rfl, ⟨rfl, trivial⟩⟩⟩⟩
    · intro q; have w := w.2 q
      refine y_ldk (ok := q_isA) (n := 0) (ck_at dt_P_writeReplaced 26 rfl) rfl rfl (fun _ => rfl) rfl rfl ?_
      refine y_getF (r := 102) (K := 10) (j := 6) (a := 0) (ck_at dt_P_writeReplaced 27 rfl) own_P_writeReplaced (cf_at 59 rfl) rfl rfl ⟨(SH.o hS ⟨by decide, by decide, by decide⟩), ?_⟩
      refine y_ldk (ok := q_isI) (n := 6) (ck_at dt_P_writeReplaced 28 rfl) rfl rfl (fun _ => rfl) rfl rfl ?_
      refine y_ldk (ok := q_isA) (n := 2) (ck_at dt_P_writeReplaced 29 rfl) rfl rfl (fun _ => rfl) rfl rfl ?_
      refine y_virtP (k' := n_By_size) (n := 0) (as := []) (r := [iv x6, .ref 102]) (ck_at dt_P_writeReplaced 30 rfl) own_P_writeReplaced (cm_at 128 rfl) vk_By_size rfl nl_By_size rfl rfl rfl rfl (SH.o hS ha2) (Y_By_size (by omega) hS ha2 ⟨rfl, rfl⟩) ?_
      refine y_virt (k' := n_Wa_tryPlaces) (n := 2) (as := [iv x6, iv (B a2 1)]) (r := []) (ck_at dt_P_writeReplaced 31 rfl) own_P_writeReplaced (cm_at 142 rfl) vk_Wa_tryPlaces rfl nl_Wa_tryPlaces rfl rfl rfl rfl ⟨(SH.o hS ⟨by decide, by decide, by decide⟩), ?_⟩
      exact w.mono (Nat.le_refl _) (fun o B' ⟨v, ho, hS', w⟩ => Or.inl ⟨some (iv v), ho, y_wk (c_P_writeReplaced_63_ok (by omega) hS' ha2 ha3 w) ⟨rfl, ⟨rfl, ⟨rfl, ⟨rfl, ⟨rfl, ⟨rfl, trivial⟩⟩⟩⟩⟩⟩⟩)
def c_P_writeReplaced_25 (h1 : qH) (d : Nat) (a2 : Nat) (a3 : Nat) (B : qB) (Q : qO → qB → Prop) : Prop := qY h1 (d + 1) n_P_writeReplaced 37 [some (.ref 0), none, some (.ref a2), some (.ref a3), some (iv 1), some (iv 0), some (iv 0), some (iv 0)] [] B Q
theorem c_P_writeReplaced_25_ok {h1 : qH} {d : Nat} {a2 : Nat} {a3 : Nat} {B : qB} {Q : qO → qB → Prop} (hd : 2 ≤ d) (hS : SH B) (ha2 : ob 1 a2) (ha3 : ob 1 a3) (w : c_P_writeReplaced_25 h1 d a2 a3 B Q) : qY h1 (d + 1) n_P_writeReplaced 25 [some (.ref 0), none, some (.ref a2), some (.ref a3), none, none, none, none] [] B Q := by
  unfold c_P_writeReplaced_25 at w
  refine y_op (ck_at dt_P_writeReplaced 13 rfl) rfl (o_const _) ?_
  refine y_st1 (ok := q_isI) (n := 4) (L' := [some (.ref 0), none, some (.ref a2), some (.ref a3), some (iv 1), none, none, none]) (ck_at dt_P_writeReplaced 14 rfl) rfl (fun _ => rfl) (fun _ _ => rfl) rfl nl_P_writeReplaced (by decide) rfl rfl ?_
  refine y_op (ck_at dt_P_writeReplaced 15 rfl) rfl (o_const _) ?_
  refine y_st1 (ok := q_isI) (n := 5) (L' := [some (.ref 0), none, some (.ref a2), some (.ref a3), some (iv 1), some (iv 0), none, none]) (ck_at dt_P_writeReplaced 16 rfl) rfl (fun _ => rfl) (fun _ _ => rfl) rfl nl_P_writeReplaced (by decide) rfl rfl ?_
  refine y_op (ck_at dt_P_writeReplaced 17 rfl) rfl (o_const _) ?_
  refine y_st1 (ok := q_isI) (n := 6) (L' := [some (.ref 0), none, some (.ref a2), some (.ref a3), some (iv 1), some (iv 0), some (iv 0), none]) (ck_at dt_P_writeReplaced 18 rfl) rfl (fun _ => rfl) (fun _ _ => rfl) rfl nl_P_writeReplaced (by decide) rfl rfl ?_
  refine y_op (ck_at dt_P_writeReplaced 19 rfl) rfl (o_const _) ?_
  refine y_st1 (ok := q_isI) (n := 7) (L' := [some (.ref 0), none, some (.ref a2), some (.ref a3), some (iv 1), some (iv 0), some (iv 0), some (iv 0)]) (ck_at dt_P_writeReplaced 20 rfl) rfl (fun _ => rfl) (fun _ _ => rfl) rfl nl_P_writeReplaced (by decide) rfl rfl ?_
  exact y_wk w ⟨rfl, ⟨rfl, ⟨rfl, ⟨rfl, ⟨rfl, ⟨rfl, ⟨rfl, trivial⟩⟩⟩⟩⟩⟩⟩
def c_P_writeReplaced_0 (h1 : qH) (d : Nat) (a1 : Nat) (a2 : Nat) (a3 : Nat) (B : qB) (Q : qO → qB → Prop) : Prop := ob 3 ((B 0 11).toNat) ∧ bOK (u2 B ((B 0 11).toNat) 1 0) 88 ∧ qY h1 d n_Wa_prepare 0 [some (.ref 102), some (.ref a1), some (.ref a2), some (iv 0)] [] (cuB (u2 B ((B 0 11).toNat) 1 0) 88 0) (fun o B' => o = .inl none ∧ SH B' ∧ c_P_writeReplaced_25 h1 d a2 a3 B' Q)
theorem c_P_writeReplaced_0_ok {h1 : qH} {d : Nat} {a1 : Nat} {a2 : Nat} {a3 : Nat} {B : qB} {Q : qO → qB → Prop} (hd : 2 ≤ d) (hS : SH B) (ha1 : ob 5 a1) (ha2 : ob 1 a2) (ha3 : ob 1 a3) (w : c_P_writeReplaced_0 h1 d a1 a2 a3 B Q) : qY h1 (d + 1) n_P_writeReplaced 0 [some (.ref 0), some (.ref a1), some (.ref a2), some (.ref a3), none, none, none, none] [] B Q := by
  unfold c_P_writeReplaced_0 at w
  obtain ⟨p1, p3, w⟩ := w
  refine y_ldk (ok := q_isA) (n := 0) (ck_at dt_P_writeReplaced 0 rfl) rfl rfl (fun _ => rfl) rfl rfl ?_
  refine y_getD (K := 10) (j := 11) (a := 0) (ck_at dt_P_writeReplaced 1 rfl) own_P_writeReplaced (cf_at 61 rfl) rfl rfl rfl ⟨(SH.o hS ⟨by decide, by decide, by decide⟩), ?_⟩
  refine y_virtV (k' := n_Fo_clear) (n := 0) (as := []) (r := []) (ck_at dt_P_writeReplaced 2 rfl) own_P_writeReplaced (cm_at 147 rfl) vk_Fo_clear rfl nl_Fo_clear rfl rfl rfl rfl (SH.o hS p1) (Y_Fo_clear (by omega) hS p1 ⟨rfl, rfl⟩) ?_
  have hS2 := SH_u2 (b := ((B 0 11).toNat)) (x := 1) (z := 0) hS (by decide)
  refine y_ldk (ok := q_isA) (n := 0) (ck_at dt_P_writeReplaced 3 rfl) rfl rfl (fun _ => rfl) rfl rfl ?_
  refine y_getF (r := 88) (K := 10) (j := 7) (a := 0) (ck_at dt_P_writeReplaced 4 rfl) own_P_writeReplaced (cf_at 55 rfl) rfl rfl ⟨(SH.o hS2 ⟨by decide, by decide, by decide⟩), ?_⟩
  refine y_op (ck_at dt_P_writeReplaced 5 rfl) rfl (o_const _) ?_
  refine y_virtV (k' := n_By_cut) (n := 0) (as := [iv 0]) (r := []) (ck_at dt_P_writeReplaced 6 rfl) own_P_writeReplaced (cm_at 129 rfl) vk_By_cut rfl nl_By_cut rfl rfl rfl rfl (SH.o hS2 ⟨by decide, by decide, by decide⟩) (Y_By_cut (by omega) hS2 ⟨by decide, by decide, by decide⟩ p3 ⟨by decide, by decide⟩ ⟨rfl, rfl⟩) ?_
  have hS4 : SH (cuB (u2 B ((B 0 11).toNat) 1 0) 88 0) := S_By_cut hS2
  refine y_ldk (ok := q_isA) (n := 0) (ck_at dt_P_writeReplaced 7 rfl) rfl rfl (fun _ => rfl) rfl rfl ?_
  refine y_getF (r := 102) (K := 10) (j := 6) (a := 0) (ck_at dt_P_writeReplaced 8 rfl) own_P_writeReplaced (cf_at 59 rfl) rfl rfl ⟨(SH.o hS4 ⟨by decide, by decide, by decide⟩), ?_⟩
  refine y_ldk (ok := q_isA) (n := 1) (ck_at dt_P_writeReplaced 9 rfl) rfl rfl (fun _ => rfl) rfl rfl ?_
  refine y_ldk (ok := q_isA) (n := 2) (ck_at dt_P_writeReplaced 10 rfl) rfl rfl (fun _ => rfl) rfl rfl ?_
  refine y_op (ck_at dt_P_writeReplaced 11 rfl) rfl (o_const _) ?_
  refine y_virt (k' := n_Wa_prepare) (n := 0) (as := [.ref a1, .ref a2, iv 0]) (r := []) (ck_at dt_P_writeReplaced 12 rfl) own_P_writeReplaced (cm_at 141 rfl) vk_Wa_prepare rfl nl_Wa_prepare rfl rfl rfl rfl ⟨(SH.o hS4 ⟨by decide, by decide, by decide⟩), ?_⟩
  exact w.mono (Nat.le_refl _) (fun o B' ⟨ho, hS', w⟩ => Or.inl ⟨none, ho, y_wk (c_P_writeReplaced_25_ok (by omega) hS' ha2 ha3 w) ⟨rfl, ⟨rfl, ⟨rfl, trivial⟩⟩⟩⟩)
/-! PatternTrier.writeModel(LPatternTrier$Bytes;LPatternTrier$Bytes;)Z -/
def t_P_writeModel : List (Nat × Instr × Nat) := [(0, .iconst 1, 1), (1, .istore_n 3, 1), (2, .iconst 0, 1), (3, .istore 4, 2), (5, .iload 4, 2), (7, .aload_n 2, 1), (8, .invokevirtual 107, 3), (11, .if_icmp .ge 56, 3), (14, .iload_n 3, 1), (15, .ifCond .eq 52, 3), (18, .aload_n 2, 1), (19, .iload 4, 2), (21, .invokevirtual 240, 3), (24, .istore 5, 2), (26, .iload 5, 2), (28, .bipush 36, 2), (30, .if_icmp .eq 16, 3), (33, .aload_n 0, 1), (34, .getfield 42, 3), (37, .iload 5, 2), (39, .invokevirtual 256, 3), (42, .istore_n 3, 1), (43, .goto 18, 3), (46, .iinc 4 1, 3), (49, .aload_n 0, 1), (50, .aload_n 1, 1), (51, .aload_n 2, 1), (52, .iload 4, 2), (54, .invokevirtual 240, 3), (57, .invokevirtual 283, 3), (60, .istore_n 3, 1), (61, .iinc 4 1, 3), (64, .goto (-59), 3), (67, .iload_n 3, 1), (68, .ireturn, 1)]
set_option maxRecDepth 100000 in
theorem dt_P_writeModel : q_ck n_P_writeModel t_P_writeModel = true := by decide +kernel
def c_P_writeModel_61 (h1 : qH) (d : Nat) (a1 : Nat) (a2 : Nat) (x3 : Int) (x4 : Int) (B : qB) (Q : qO → qB → Prop) : Prop := qY h1 (d + 1) n_P_writeModel 5 [some (.ref 0), some (.ref a1), some (.ref a2), some (iv x3), some (iv (x4 + 1)), none] [] B Q
theorem c_P_writeModel_61_ok {h1 : qH} {d : Nat} {a1 : Nat} {a2 : Nat} {x3 : Int} {x4 : Int} {B : qB} {Q : qO → qB → Prop} (hd : 1 ≤ d) (hS : SH B) (ha1 : ob 1 a1) (ha2 : ob 1 a2) (w : c_P_writeModel_61 h1 d a1 a2 x3 x4 B Q) : qY h1 (d + 1) n_P_writeModel 61 [some (.ref 0), some (.ref a1), some (.ref a2), some (iv x3), some (iv x4), none] [] B Q := by
  unfold c_P_writeModel_61 at w
  refine y_iinc (n := 4) (L' := [some (.ref 0), some (.ref a1), some (.ref a2), some (iv x3), some (iv (x4 + 1)), none]) (ck_at dt_P_writeModel 31 rfl) rfl nl_P_writeModel (by decide) rfl rfl ?_
  refine y_goto (t := 5) (ck_at dt_P_writeModel 32 rfl) rfl ?_
  exact y_wk w ⟨rfl, ⟨rfl, ⟨rfl, ⟨rfl, ⟨rfl, trivial⟩⟩⟩⟩⟩
def c_P_writeModel_60 (h1 : qH) (d : Nat) (a1 : Nat) (a2 : Nat) (x4 : Int) (s0 : Int) (B : qB) (Q : qO → qB → Prop) : Prop := c_P_writeModel_61 h1 d a1 a2 s0 x4 B Q
theorem c_P_writeModel_60_ok {h1 : qH} {d : Nat} {a1 : Nat} {a2 : Nat} {x4 : Int} {s0 : Int} {B : qB} {Q : qO → qB → Prop} (hd : 1 ≤ d) (hS : SH B) (ha1 : ob 1 a1) (ha2 : ob 1 a2) (w : c_P_writeModel_60 h1 d a1 a2 x4 s0 B Q) : qY h1 (d + 1) n_P_writeModel 60 [some (.ref 0), some (.ref a1), some (.ref a2), none, some (iv x4), none] [iv s0] B Q := by
  unfold c_P_writeModel_60 at w
  refine y_st1 (ok := q_isI) (n := 3) (L' := [some (.ref 0), some (.ref a1), some (.ref a2), some (iv s0), some (iv x4), none]) (ck_at dt_P_writeModel 30 rfl) rfl (fun _ => rfl) (fun _ _ => rfl) rfl nl_P_writeModel (by decide) rfl rfl ?_
  exact y_wk (c_P_writeModel_61_ok (by omega) hS ha1 ha2 w) ⟨rfl, ⟨rfl, ⟨rfl, ⟨rfl, ⟨rfl, trivial⟩⟩⟩⟩⟩
def c_P_writeModel_5 (h1 : qH) (d : Nat) (a1 : Nat) (a2 : Nat) (x3 : Int) (x4 : Int) (B : qB) (Q : qO → qB → Prop) : Prop := R32 x4 ∧ R32 (B a2 1) ∧ (x4 ≥ B a2 1 → (x3 = 0 ∨ x3 = 1) ∧ Q (.inl (some (iv x3))) B) ∧ (x4 < B a2 1 → R32 x3 ∧ (x3 = 0 → (x3 = 0 ∨ x3 = 1) ∧ Q (.inl (some (iv x3))) B) ∧ (¬ x3 = 0 → bOK B a2 ∧ R32 (byA B a2 x4) ∧ (byA B a2 x4 = 36 → R32 (x4 + 1) ∧ qY h1 d n_P_writeSign 0 [some (.ref 0), some (.ref a1), some (iv (byA B a2 (x4 + 1))), none] [] B (fun o B' => ∃ v : Int, o = .inl (some (iv v)) ∧ SH B' ∧ c_P_writeModel_60 h1 d a1 a2 (x4 + 1) v B' Q)) ∧ (¬ byA B a2 x4 = 36 → bOK B 88 ∧ c_P_writeModel_61 h1 d a1 a2 (bi (decide (B 88 1 < bl 88))) x4 (adB B 88 (byA B a2 x4)) Q)))
theorem c_P_writeModel_5_ok {h1 : qH} {d : Nat} {a1 : Nat} {a2 : Nat} {x3 : Int} {x4 : Int} {B : qB} {Q : qO → qB → Prop} (hd : 1 ≤ d) (hS : SH B) (ha1 : ob 1 a1) (ha2 : ob 1 a2) (w : c_P_writeModel_5 h1 d a1 a2 x3 x4 B Q) : qY h1 (d + 1) n_P_writeModel 5 [some (.ref 0), some (.ref a1), some (.ref a2), some (iv x3), some (iv x4), none] [] B Q := by
  unfold c_P_writeModel_5 at w
  obtain ⟨p1, p2, w⟩ := w
  refine y_ldk (ok := q_isI) (n := 4) (ck_at dt_P_writeModel 4 rfl) rfl rfl (fun _ => rfl) rfl rfl ?_
  refine y_ldk (ok := q_isA) (n := 2) (ck_at dt_P_writeModel 5 rfl) rfl rfl (fun _ => rfl) rfl rfl ?_
  refine y_virtP (k' := n_By_size) (n := 0) (as := []) (r := [iv x4]) (ck_at dt_P_writeModel 6 rfl) own_P_writeModel (cm_at 128 rfl) vk_By_size rfl nl_By_size rfl rfl rfl rfl (SH.o hS ha2) (Y_By_size (by omega) hS ha2 ⟨rfl, rfl⟩) ?_
  refine y_icmp (t := 67) (ck_at dt_P_writeModel 7 rfl) rfl p1 p2 ?_ ?_
  · intro q; have w := w.1 q
    obtain ⟨p3, w⟩ := w
    refine y_ldk (ok := q_isI) (n := 3) (ck_at dt_P_writeModel 33 rfl) rfl rfl (fun _ => rfl) rfl rfl ?_
    exact y_retZ (ck_at dt_P_writeModel 34 rfl) rt_P_writeModel p3 w
  · intro q; have w := w.2 q
    obtain ⟨p4, w⟩ := w
    refine y_ldk (ok := q_isI) (n := 3) (ck_at dt_P_writeModel 8 rfl) rfl rfl (fun _ => rfl) rfl rfl ?_
    refine y_ifz (t := 67) (ck_at dt_P_writeModel 9 rfl) rfl p4 ?_ ?_
    · intro q; have w := w.1 q
      obtain ⟨p5, w⟩ := w
      refine y_ldk (ok := q_isI) (n := 3) (ck_at dt_P_writeModel 33 rfl) rfl rfl (fun _ => rfl) rfl rfl ?_
      exact y_retZ (ck_at dt_P_writeModel 34 rfl) rt_P_writeModel p5 w
    · intro q; have w := w.2 q
      obtain ⟨p6, p7, w⟩ := w
      refine y_ldk (ok := q_isA) (n := 2) (ck_at dt_P_writeModel 10 rfl) rfl rfl (fun _ => rfl) rfl rfl ?_
      refine y_ldk (ok := q_isI) (n := 4) (ck_at dt_P_writeModel 11 rfl) rfl rfl (fun _ => rfl) rfl rfl ?_
      refine y_virtP (k' := n_By_at) (n := 0) (as := [iv x4]) (r := []) (ck_at dt_P_writeModel 12 rfl) own_P_writeModel (cm_at 156 rfl) vk_By_at rfl nl_By_at rfl rfl rfl rfl (SH.o hS ha2) (Y_By_at (by omega) hS ha2 p6 p1 ⟨rfl, rfl⟩) ?_
      refine y_st1 (ok := q_isI) (n := 5) (L' := [some (.ref 0), some (.ref a1), some (.ref a2), some (iv x3), some (iv x4), some (iv (byA B a2 x4))]) (ck_at dt_P_writeModel 13 rfl) rfl (fun _ => rfl) (fun _ _ => rfl) rfl nl_P_writeModel (by decide) rfl rfl ?_
      refine y_ldk (ok := q_isI) (n := 5) (ck_at dt_P_writeModel 14 rfl) rfl rfl (fun _ => rfl) rfl rfl ?_
      refine y_op (ck_at dt_P_writeModel 15 rfl) rfl (o_bipush _ (by decide)) ?_
      refine y_icmp (t := 46) (ck_at dt_P_writeModel 16 rfl) rfl p7 ⟨by decide, by decide⟩ ?_ ?_
      · intro q; have w := w.1 q
        obtain ⟨p8, w⟩ := w
        refine y_iinc (n := 4) (L' := [some (.ref 0), some (.ref a1), some (.ref a2), some (iv x3), some (iv (x4 + 1)), some (iv (byA B a2 x4))]) (ck_at dt_P_writeModel 23 rfl) rfl nl_P_writeModel (by decide) rfl rfl ?_
        refine y_ldk (ok := q_isA) (n := 0) (ck_at dt_P_writeModel 24 rfl) rfl rfl (fun _ => rfl) rfl rfl ?_
        refine y_ldk (ok := q_isA) (n := 1) (ck_at dt_P_writeModel 25 rfl) rfl rfl (fun _ => rfl) rfl rfl ?_
        refine y_ldk (ok := q_isA) (n := 2) (ck_at dt_P_writeModel 26 rfl) rfl rfl (fun _ => rfl) rfl rfl ?_
        refine y_ldk (ok := q_isI) (n := 4) (ck_at dt_P_writeModel 27 rfl) rfl rfl (fun _ => rfl) rfl rfl ?_
        refine y_virtP (k' := n_By_at) (n := 0) (as := [iv (x4 + 1)]) (r := [.ref a1, .ref 0]) (ck_at dt_P_writeModel 28 rfl) own_P_writeModel (cm_at 156 rfl) vk_By_at rfl nl_By_at rfl rfl rfl rfl (SH.o hS ha2) (Y_By_at (by omega) hS ha2 p6 p8 ⟨rfl, rfl⟩) ?_
        refine y_virt (k' := n_P_writeSign) (n := 1) (as := [.ref a1, iv (byA B a2 (x4 + 1))]) (r := []) (ck_at dt_P_writeModel 29 rfl) own_P_writeModel (cm_at 163 rfl) vk_P_writeSign rfl nl_P_writeSign rfl rfl rfl rfl ⟨(SH.o hS ⟨by decide, by decide, by decide⟩), ?_⟩
        exact w.mono (Nat.le_refl _) (fun o B' ⟨v, ho, hS', w⟩ => Or.inl ⟨some (iv v), ho, y_wk (c_P_writeModel_60_ok (by omega) hS' ha1 ha2 w) ⟨rfl, ⟨rfl, ⟨rfl, ⟨rfl, trivial⟩⟩⟩⟩⟩)
      · intro q; have w := w.2 q
        obtain ⟨p9, w⟩ := w
        refine y_ldk (ok := q_isA) (n := 0) (ck_at dt_P_writeModel 17 rfl) rfl rfl (fun _ => rfl) rfl rfl ?_
        refine y_getF (r := 88) (K := 10) (j := 7) (a := 0) (ck_at dt_P_writeModel 18 rfl) own_P_writeModel (cf_at 55 rfl) rfl rfl ⟨(SH.o hS ⟨by decide, by decide, by decide⟩), ?_⟩
        refine y_ldk (ok := q_isI) (n := 5) (ck_at dt_P_writeModel 19 rfl) rfl rfl (fun _ => rfl) rfl rfl ?_
        refine y_virtP (k' := n_By_add) (n := 0) (as := [iv (byA B a2 x4)]) (r := []) (ck_at dt_P_writeModel 20 rfl) own_P_writeModel (cm_at 159 rfl) vk_By_add rfl nl_By_add rfl rfl rfl rfl (SH.o hS ⟨by decide, by decide, by decide⟩) (Y_By_add (by omega) hS ⟨by decide, by decide, by decide⟩ p9 ⟨rfl, rfl⟩) ?_
        have hS10 : SH (adB B 88 (byA B a2 x4)) := S_By_add hS ⟨by decide, by decide, by decide⟩ p9
        refine y_st1 (ok := q_isI) (n := 3) (L' := [some (.ref 0), some (.ref a1), some (.ref a2), some (iv (bi (decide (B 88 1 < bl 88)))), some (iv x4), some (iv (byA B a2 x4))]) (ck_at dt_P_writeModel 21 rfl) rfl (fun _ => rfl) (fun _ _ => rfl) rfl nl_P_writeModel (by decide) rfl rfl ?_
        refine y_goto (t := 61) (ck_at dt_P_writeModel 22 rfl) rfl ?_
        exact y_wk (c_P_writeModel_61_ok (by omega) hS10 ha1 ha2 w) ⟨rfl, ⟨rfl, ⟨rfl, ⟨rfl, ⟨rfl, trivial⟩⟩⟩⟩⟩
def c_P_writeModel_0 (h1 : qH) (d : Nat) (a1 : Nat) (a2 : Nat) (B : qB) (Q : qO → qB → Prop) : Prop := qY h1 (d + 1) n_P_writeModel 5 [some (.ref 0), some (.ref a1), some (.ref a2), some (iv 1), some (iv 0), none] [] B Q
theorem c_P_writeModel_0_ok {h1 : qH} {d : Nat} {a1 : Nat} {a2 : Nat} {B : qB} {Q : qO → qB → Prop} (hd : 1 ≤ d) (hS : SH B) (ha1 : ob 1 a1) (ha2 : ob 1 a2) (w : c_P_writeModel_0 h1 d a1 a2 B Q) : qY h1 (d + 1) n_P_writeModel 0 [some (.ref 0), some (.ref a1), some (.ref a2), none, none, none] [] B Q := by
  unfold c_P_writeModel_0 at w
  refine y_op (ck_at dt_P_writeModel 0 rfl) rfl (o_const _) ?_
  refine y_st1 (ok := q_isI) (n := 3) (L' := [some (.ref 0), some (.ref a1), some (.ref a2), some (iv 1), none, none]) (ck_at dt_P_writeModel 1 rfl) rfl (fun _ => rfl) (fun _ _ => rfl) rfl nl_P_writeModel (by decide) rfl rfl ?_
  refine y_op (ck_at dt_P_writeModel 2 rfl) rfl (o_const _) ?_
  refine y_st1 (ok := q_isI) (n := 4) (L' := [some (.ref 0), some (.ref a1), some (.ref a2), some (iv 1), some (iv 0), none]) (ck_at dt_P_writeModel 3 rfl) rfl (fun _ => rfl) (fun _ _ => rfl) rfl nl_P_writeModel (by decide) rfl rfl ?_
  exact y_wk w ⟨rfl, ⟨rfl, ⟨rfl, ⟨rfl, ⟨rfl, trivial⟩⟩⟩⟩⟩
/-! PatternTrier.writeSign(LPatternTrier$Bytes;I)Z -/
def t_P_writeSign : List (Nat × Instr × Nat) := [(0, .iload_n 2, 1), (1, .invokestatic 272, 3), (4, .ifCond .ne 12, 3), (7, .aload_n 0, 1), (8, .getfield 42, 3), (11, .iload_n 2, 1), (12, .invokevirtual 256, 3), (15, .ireturn, 1), (16, .iconst 2, 1), (17, .iload_n 2, 1), (18, .bipush 48, 2), (20, .isub, 1), (21, .imul, 1), (22, .istore_n 3, 1), (23, .aload_n 0, 1), (24, .getfield 42, 3), (27, .aload_n 1, 1), (28, .aload_n 0, 1), (29, .getfield 75, 3), (32, .iload_n 3, 1), (33, .invokevirtual 183, 3), (36, .aload_n 0, 1), (37, .getfield 75, 3), (40, .iload_n 3, 1), (41, .iconst 1, 1), (42, .iadd, 1), (43, .invokevirtual 183, 3), (46, .invokevirtual 275, 3), (49, .ireturn, 1)]
set_option maxRecDepth 100000 in
theorem dt_P_writeSign : q_ck n_P_writeSign t_P_writeSign = true := by decide +kernel
def c_P_writeSign_49 (h1 : qH) (d : Nat) (s0 : Int) (B : qB) (Q : qO → qB → Prop) : Prop := (s0 = 0 ∨ s0 = 1) ∧ Q (.inl (some (iv s0))) B
theorem c_P_writeSign_49_ok {h1 : qH} {d : Nat} {s0 : Int} {B : qB} {Q : qO → qB → Prop} (hd : 1 ≤ d) (hS : SH B) (w : c_P_writeSign_49 h1 d s0 B Q) : qY h1 (d + 1) n_P_writeSign 49 [none, none, none, none] [iv s0] B Q := by
  unfold c_P_writeSign_49 at w
  obtain ⟨p1, w⟩ := w
  exact y_retZ (ck_at dt_P_writeSign 28 rfl) rt_P_writeSign p1 w
def c_P_writeSign_0 (h1 : qH) (d : Nat) (a1 : Nat) (x2 : Int) (B : qB) (Q : qO → qB → Prop) : Prop := R32 x2 ∧ (¬ bi (isDg x2) = 0 → 0 ≤ (2 * (x2 - 48)) ∧ (2 * (x2 - 48)) < 20 ∧ 0 ≤ ((2 * (x2 - 48)) + 1) ∧ ((2 * (x2 - 48)) + 1) < 20 ∧ qY h1 d n_By_addPart 0 [some (.ref 88), some (.ref a1), some (iv (B 107 (2 * (x2 - 48)))), some (iv (B 107 ((2 * (x2 - 48)) + 1))), none] [] B (fun o B' => ∃ v : Int, o = .inl (some (iv v)) ∧ SH B' ∧ c_P_writeSign_49 h1 d v B' Q)) ∧ (bi (isDg x2) = 0 → bOK B 88 ∧ Q (.inl (some (iv (bi (decide (B 88 1 < bl 88)))))) (adB B 88 x2))
theorem c_P_writeSign_0_ok {h1 : qH} {d : Nat} {a1 : Nat} {x2 : Int} {B : qB} {Q : qO → qB → Prop} (hd : 1 ≤ d) (hS : SH B) (ha1 : ob 1 a1) (w : c_P_writeSign_0 h1 d a1 x2 B Q) : qY h1 (d + 1) n_P_writeSign 0 [some (.ref 0), some (.ref a1), some (iv x2), none] [] B Q := by
  unfold c_P_writeSign_0 at w
  obtain ⟨p1, w⟩ := w
  refine y_ldk (ok := q_isI) (n := 2) (ck_at dt_P_writeSign 0 rfl) rfl rfl (fun _ => rfl) rfl rfl ?_
  refine y_statP (k' := n_P_isDigit_IZn) (n := 0) (as := [iv x2]) (r := []) (ck_at dt_P_writeSign 1 rfl) own_P_writeSign (cm_at 160 rfl) (cs_at 34 rfl) vk_P_isDigit_IZn rfl nl_P_isDigit_IZn rfl rfl rfl rfl  (Y_P_isDigit_IZn (by omega) hS p1 ⟨rfl, rfl⟩) ?_
  refine y_ifz (t := 16) (ck_at dt_P_writeSign 2 rfl) rfl (R32_bi _) ?_ ?_
  · intro q; have w := w.1 q
    obtain ⟨p2, p3, p4, p5, w⟩ := w
    refine y_op (ck_at dt_P_writeSign 8 rfl) rfl (o_const _) ?_
    refine y_ldk (ok := q_isI) (n := 2) (ck_at dt_P_writeSign 9 rfl) rfl rfl (fun _ => rfl) rfl rfl ?_
    refine y_op (ck_at dt_P_writeSign 10 rfl) rfl (o_bipush _ (by decide)) ?_
    refine y_op (ck_at dt_P_writeSign 11 rfl) rfl o_isub ?_
    refine y_op (ck_at dt_P_writeSign 12 rfl) rfl o_imul ?_
    refine y_st1 (ok := q_isI) (n := 3) (L' := [some (.ref 0), some (.ref a1), some (iv x2), some (iv (2 * (x2 - 48)))]) (ck_at dt_P_writeSign 13 rfl) rfl (fun _ => rfl) (fun _ _ => rfl) rfl nl_P_writeSign (by decide) rfl rfl ?_
    refine y_ldk (ok := q_isA) (n := 0) (ck_at dt_P_writeSign 14 rfl) rfl rfl (fun _ => rfl) rfl rfl ?_
    refine y_getF (r := 88) (K := 10) (j := 7) (a := 0) (ck_at dt_P_writeSign 15 rfl) own_P_writeSign (cf_at 55 rfl) rfl rfl ⟨(SH.o hS ⟨by decide, by decide, by decide⟩), ?_⟩
    refine y_ldk (ok := q_isA) (n := 1) (ck_at dt_P_writeSign 16 rfl) rfl rfl (fun _ => rfl) rfl rfl ?_
    refine y_ldk (ok := q_isA) (n := 0) (ck_at dt_P_writeSign 17 rfl) rfl rfl (fun _ => rfl) rfl rfl ?_
    refine y_getF (r := 102) (K := 10) (j := 6) (a := 0) (ck_at dt_P_writeSign 18 rfl) own_P_writeSign (cf_at 59 rfl) rfl rfl ⟨(SH.o hS ⟨by decide, by decide, by decide⟩), ?_⟩
    refine y_ldk (ok := q_isI) (n := 3) (ck_at dt_P_writeSign 19 rfl) rfl rfl (fun _ => rfl) rfl rfl ?_
    refine y_virtP (k' := n_Wa_mark) (n := 0) (as := [iv (2 * (x2 - 48))]) (r := [.ref a1, .ref 88]) (ck_at dt_P_writeSign 20 rfl) own_P_writeSign (cm_at 144 rfl) vk_Wa_mark rfl nl_Wa_mark rfl rfl rfl rfl (SH.o hS ⟨by decide, by decide, by decide⟩) (Y_Wa_mark (by omega) hS p2 p3 ⟨rfl, rfl⟩) ?_
    refine y_ldk (ok := q_isA) (n := 0) (ck_at dt_P_writeSign 21 rfl) rfl rfl (fun _ => rfl) rfl rfl ?_
    refine y_getF (r := 102) (K := 10) (j := 6) (a := 0) (ck_at dt_P_writeSign 22 rfl) own_P_writeSign (cf_at 59 rfl) rfl rfl ⟨(SH.o hS ⟨by decide, by decide, by decide⟩), ?_⟩
    refine y_ldk (ok := q_isI) (n := 3) (ck_at dt_P_writeSign 23 rfl) rfl rfl (fun _ => rfl) rfl rfl ?_
    refine y_op (ck_at dt_P_writeSign 24 rfl) rfl (o_const _) ?_
    refine y_op (ck_at dt_P_writeSign 25 rfl) rfl o_iadd ?_
    refine y_virtP (k' := n_Wa_mark) (n := 0) (as := [iv ((2 * (x2 - 48)) + 1)]) (r := [iv (B 107 (2 * (x2 - 48))), .ref a1, .ref 88]) (ck_at dt_P_writeSign 26 rfl) own_P_writeSign (cm_at 144 rfl) vk_Wa_mark rfl nl_Wa_mark rfl rfl rfl rfl (SH.o hS ⟨by decide, by decide, by decide⟩) (Y_Wa_mark (by omega) hS p4 p5 ⟨rfl, rfl⟩) ?_
    refine y_virt (k' := n_By_addPart) (n := 1) (as := [.ref a1, iv (B 107 (2 * (x2 - 48))), iv (B 107 ((2 * (x2 - 48)) + 1))]) (r := []) (ck_at dt_P_writeSign 27 rfl) own_P_writeSign (cm_at 161 rfl) vk_By_addPart rfl nl_By_addPart rfl rfl rfl rfl ⟨(SH.o hS ⟨by decide, by decide, by decide⟩), ?_⟩
    exact w.mono (Nat.le_refl _) (fun o B' ⟨v, ho, hS', w⟩ => Or.inl ⟨some (iv v), ho, y_wk (c_P_writeSign_49_ok (by omega) hS' w) trivial⟩)
  · intro q; have w := w.2 q
    obtain ⟨p6, w⟩ := w
    refine y_ldk (ok := q_isA) (n := 0) (ck_at dt_P_writeSign 3 rfl) rfl rfl (fun _ => rfl) rfl rfl ?_
    refine y_getF (r := 88) (K := 10) (j := 7) (a := 0) (ck_at dt_P_writeSign 4 rfl) own_P_writeSign (cf_at 55 rfl) rfl rfl ⟨(SH.o hS ⟨by decide, by decide, by decide⟩), ?_⟩
    refine y_ldk (ok := q_isI) (n := 2) (ck_at dt_P_writeSign 5 rfl) rfl rfl (fun _ => rfl) rfl rfl ?_
    refine y_virtP (k' := n_By_add) (n := 0) (as := [iv x2]) (r := []) (ck_at dt_P_writeSign 6 rfl) own_P_writeSign (cm_at 159 rfl) vk_By_add rfl nl_By_add rfl rfl rfl rfl (SH.o hS ⟨by decide, by decide, by decide⟩) (Y_By_add (by omega) hS ⟨by decide, by decide, by decide⟩ p6 ⟨rfl, rfl⟩) ?_
    have hS7 : SH (adB B 88 x2) := S_By_add hS ⟨by decide, by decide, by decide⟩ p6
    exact y_retZ (ck_at dt_P_writeSign 7 rfl) rt_P_writeSign (bi_01 _) w
