/-! java/util/Arrays.copyOf([II)[I -/
def t_Ar_copyOf : List (Nat × Instr × Nat) := [(14, .iload_n 1, 1), (15, .newarray .int, 2), (17, .astore_n 2, 1), (18, .aload_n 0, 1), (19, .iconst 0, 1), (20, .aload_n 2, 1), (21, .iconst 0, 1), (22, .aload_n 0, 1), (23, .arraylength, 1), (24, .iload_n 1, 1), (25, .invokestatic 304, 3), (28, .invokestatic 150, 3), (31, .aload_n 2, 1), (32, .areturn, 1), (0, .iload_n 1, 1), (1, .aload_n 0, 1), (2, .arraylength, 1), (3, .if_icmp .ne 11, 3)]
set_option maxRecDepth 100000 in
theorem dt_Ar_copyOf : q_ck n_Ar_copyOf t_Ar_copyOf = true := by decide +kernel
def c_Ar_copyOf_0 (h1 : qH) (d : Nat) (a0 : Nat) (n0 : Int) (x1 : Int) (B : qB) (Q : qO → qB → Prop) : Prop := (B 2000000000 (-1) = 0 ∧ 0 ≤ B 2000000000 0 ∧ B 2000000000 0 < 1000000000 ∧ 0 ≤ B 2000000000 1) ∧ 0 ≤ x1 ∧ x1 ≤ 67108864 ∧ SH (nwC B x1) ∧ isA (nwC B x1) 1 a0 n0 ∧ R32 n0 ∧ R32 x1 ∧ isA (nwC B x1) 1 ((B 2000000000 0).toNat) x1 ∧ (B 2000000000 0).toNat < 1000000000 ∧ 0 ≤ min n0 x1 ∧ 0 + (min n0 x1) ≤ n0 ∧ 0 + (min n0 x1) ≤ x1 ∧ Q (.inl (some (.ref ((B 2000000000 0).toNat)))) (cpC (nwC B x1) a0 0 ((B 2000000000 0).toNat) 0 (min n0 x1))
theorem c_Ar_copyOf_0_ok {h1 : qH} {d : Nat} {a0 : Nat} {n0 : Int} {x1 : Int} {B : qB} {Q : qO → qB → Prop} (hd : 0 ≤ d) (hS : SH B) (hA0 : isA B 1 a0 n0) (hA0n : n0 ≤ 67108864) (hA0l : a0 < 1000000000) (hne : x1 ≠ n0) (w : c_Ar_copyOf_0 h1 d a0 n0 x1 B Q) : qY h1 (d + 1) n_Ar_copyOf 0 [some (.ref a0), some (iv x1), none] [] B Q := by
  unfold c_Ar_copyOf_0 at w
  obtain ⟨p1, p2, p3, p4, p5, p6, p7, p8, p9, p10, p11, p12, w⟩ := w
  refine y_ldk (ok := q_isI) (n := 1) (ck_at dt_Ar_copyOf 14 rfl) rfl rfl (fun _ => rfl) rfl rfl ?_
  refine y_ldk (ok := q_isA) (n := 0) (ck_at dt_Ar_copyOf 15 rfl) rfl rfl (fun _ => rfl) rfl rfl ?_
  refine y_alen (ck_at dt_Ar_copyOf 16 rfl) ⟨1, n0, hA0, hA0n, ?_⟩
  refine y_icmp (t := 14) (ck_at dt_Ar_copyOf 17 rfl) rfl p7 p6 (fun _ => ?_) (fun q => absurd (by simpa [cN] using q) hne)
  refine y_ldk (ok := q_isI) (n := 1) (ck_at dt_Ar_copyOf 0 rfl) rfl rfl (fun _ => rfl) rfl rfl ?_
  refine y_newa (ck_at dt_Ar_copyOf 1 rfl) ⟨p1, p2, p3, ?_⟩
  refine y_st1 (ok := q_isA) (n := 2) (L' := [some (.ref a0), some (iv x1), some (.ref ((B 2000000000 0).toNat))]) (ck_at dt_Ar_copyOf 2 rfl) rfl (fun _ => rfl) (fun _ _ => rfl) rfl nl_Ar_copyOf (by decide) rfl rfl ?_
  refine y_ldk (ok := q_isA) (n := 0) (ck_at dt_Ar_copyOf 3 rfl) rfl rfl (fun _ => rfl) rfl rfl ?_
  refine y_op (ck_at dt_Ar_copyOf 4 rfl) rfl (o_const _) ?_
  refine y_ldk (ok := q_isA) (n := 2) (ck_at dt_Ar_copyOf 5 rfl) rfl rfl (fun _ => rfl) rfl rfl ?_
  refine y_op (ck_at dt_Ar_copyOf 6 rfl) rfl (o_const _) ?_
  refine y_ldk (ok := q_isA) (n := 0) (ck_at dt_Ar_copyOf 7 rfl) rfl rfl (fun _ => rfl) rfl rfl ?_
  refine y_alen (ck_at dt_Ar_copyOf 8 rfl) ⟨1, n0, p5, hA0n, ?_⟩
  refine y_ldk (ok := q_isI) (n := 1) (ck_at dt_Ar_copyOf 9 rfl) rfl rfl (fun _ => rfl) rfl rfl ?_
  refine y_mm (b := false) (ck_at dt_Ar_copyOf 10 rfl) own_Ar_copyOf (by decide +kernel) rfl p6 p7 ?_
  rw [if_neg (by decide)]
  refine y_copy (ck_at dt_Ar_copyOf 11 rfl) own_Ar_copyOf (by decide +kernel) rfl ⟨1, n0, x1, by decide, p5, p8, hA0n, p3, hA0l, p9, (by decide), (by decide), p10, p11, p12, (fun q => absurd q (by decide)), ?_⟩
  have hS13 := SH_cp (a0 := a0) (sp := 0) (a1 := (B 2000000000 0).toNat) (dp := 0) (n := min n0 x1) p4 (by decide)
  refine y_ldk (ok := q_isA) (n := 2) (ck_at dt_Ar_copyOf 12 rfl) rfl rfl (fun _ => rfl) rfl rfl ?_
  exact y_retR (ck_at dt_Ar_copyOf 13 rfl) rt_Ar_copyOf rfl w
