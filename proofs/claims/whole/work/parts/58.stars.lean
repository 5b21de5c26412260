/-! THE REFERENCE'S COMPILER: rounds without bound, rounds that may be -/
section RST
variable {m : Nat} {h0 : qH} {d : Nat} {B : qB} {Q : qO → qB → Prop} {ctx : List Int} {a t x : Int}
theorem em0_46 {c y z : Int} : em0 B c y z 46 0 = B 46 0 + 1 := by unfold em0; rw [u2_same]
theorem C_star (hm : m + 100 < 1000000000) (hX : CX B ctx a (t + 1)) (t0 : 0 ≤ t) (t1 : t < 5980) (a1 : a < 5990) (s2 : B 48 0 < 2000) (m2 : B 47 0 < 800) (h60 : B 60 t = 6) (h61 : B 61 t = x) (x0 : 0 ≤ x) (x1 : x < 3000)
    (k : CL m h0 d (ltB (ltB (u2 (u2 (em0 (u2 (u2 (em1 (u2 B 64 0 t) 1 0 0 ctx.length) 46 0 (a + 1)) 47 0 (B 47 0 + 1)) 4 (B 47 0) 0) 53 (B 47 0) (ctxH ctx)) 55 0 (B 47 0)) 7 a (B 47 0) (B 62 t)) 0 (B 18 x) 0 0) Q) : CL m h0 d B Q := by
  have hX0 := (X_pop hX t0).1
  have e46 : (u2 B 64 0 t) 46 0 = a := hX0.1
  have e48 : (u2 B 64 0 t) 48 0 = B 48 0 := u2_bank (by decide)
  have a0 : 0 ≤ a := hX.2.2.2.2.2.1
  have s1 : 0 ≤ B 48 0 := hX.2.2.2.2.2.2.2.1
  have m1 : 0 ≤ B 47 0 := hX.2.2.2.2.2.2.2.2.1
  refine r_compile_16_ok hm ?_
  unfold r_compile_16
  rw [hX.2.1, show t + 1 - 1 = t by omega, h60, h61]
  refine ⟨⟨by omega, by omega⟩, fun q => by omega, fun _ => ⟨t0, by omega, ⟨by decide, by decide⟩, ⟨fun _ => ⟨fun _ => ⟨fun _ => ⟨fun _ => ⟨fun _ => ⟨fun _ => ⟨fun q => absurd rfl q, fun _ => ?_⟩, fun q => absurd q (by decide)⟩, fun q => absurd q (by decide)⟩, fun q => absurd q (by decide)⟩, fun q => absurd q (by decide)⟩, fun q => absurd q (by decide)⟩, fun q => absurd q (by decide)⟩⟩⟩
  refine qZ.mono (d := d + 1) (R_emit1 hm (ctx := ctx) (by rw [e46]; exact a0) (by rw [e46]; omega) (Or.inl rfl) (by rw [e48]; exact s1) (by rw [e48]; exact s2) hX0.2.2.1 hX0.2.2.2.1 ⟨_, rfl, ?_⟩) (by omega) (fun _ _ q => q)
  rw [e46]
  generalize hB1 : u2 (em1 (u2 B 64 0 t) 1 0 0 ctx.length) 46 0 (a + 1) = B1 at k ⊢
  have f46 : B1 46 0 = a + 1 := by rw [← hB1, u2_same]
  have f47 : B1 47 0 = B 47 0 := by rw [← hB1]; simp [em1, u2]
  have f55 : B1 55 0 = ctxH ctx := by rw [← hB1, ← hX.2.2.1]; simp [em1, u2]
  have f18 : B1 18 x = B 18 x := by rw [← hB1]; simp [em1, u2]
  have f64 : B1 64 0 = t := by rw [← hB1]; simp [em1, u2]
  unfold r_compile_273
  rw [f47]
  have g46 : (u2 B1 47 0 (B 47 0 + 1)) 46 0 = a + 1 := by rw [u2_bank (by decide)]; exact f46
  refine qZ.mono (d := d + 1) (R_emit0 hm (by rw [g46]; omega) (by rw [g46]; omega) (by decide) (by decide) (by decide) (by decide) ⟨_, rfl, ?_⟩) (by omega) (fun _ _ q => q)
  generalize hB2 : em0 (u2 B1 47 0 (B 47 0 + 1)) 4 (B 47 0) 0 = B2 at k ⊢
  have i55 : B2 55 0 = ctxH ctx := by rw [← hB2, ← f55]; simp [em0, u2]
  have i18 : B2 18 x = B 18 x := by rw [← hB2, ← f18]; simp [em0, u2]
  have i64 : B2 64 0 = t := by rw [← hB2, ← f64]; simp [em0, u2]
  unfold r_compile_299
  rw [i55]
  refine ⟨m1, m2, ?_⟩
  have j64 : (u2 (u2 B2 53 (B 47 0) (ctxH ctx)) 55 0 (B 47 0)) 64 0 = t := by rw [u2_bank (by decide), u2_bank (by decide)]; exact i64
  refine qZ.mono (d := d + 1) (R_later hm (by rw [j64]; exact t0) (by rw [j64]; omega) ⟨rfl, ?_⟩) (by omega) (fun _ _ q => q)
  unfold r_compile_328
  have j18 : (ltB (u2 (u2 B2 53 (B 47 0) (ctxH ctx)) 55 0 (B 47 0)) 7 a (B 47 0) (B 62 t)) 18 x = B 18 x := by rw [← i18]; simp [ltB, u2]
  rw [j18]
  refine ⟨x0, x1, ?_⟩
  refine qZ.mono (d := d + 1) (R_later hm (by rw [ltB_64, j64]; omega) (by rw [ltB_64, j64]; omega) ⟨rfl, ?_⟩) (by omega) (fun _ _ q => q)
  unfold r_compile_341 r_compile_427
  exact k
theorem C_starend (hm : m + 100 < 1000000000) {s q lz : Int} (h64 : B 64 0 = t + 1) (t0 : 0 ≤ t) (t1 : t < 6000) (h46 : B 46 0 = a) (a0 : 0 ≤ a) (a1 : a < 5990) (h60 : B 60 t = 7) (h61 : B 61 t = s) (h62 : B 62 t = q) (h63 : B 63 t = lz) (s0 : 0 ≤ s) (s1 : s < 6000) (q0 : 0 ≤ q) (q1 : q < 800) (hlz : R32 lz)
    (k : CL m h0 d (u2 (u2 (em0 (em0 (u2 (u2 B 64 0 t) 55 0 (B 53 q)) 5 q 0) 2 s 0) 43 s (if lz = 1 then a + 2 else s + 1)) 44 s (if lz = 1 then s + 1 else a + 2)) Q) : CL m h0 d B Q := by
  refine r_compile_16_ok hm ?_
  unfold r_compile_16
  rw [h64, show t + 1 - 1 = t by omega, h60, h61, h62, h63]
  refine ⟨⟨by omega, by omega⟩, fun q => by omega, fun _ => ⟨t0, by omega, ⟨by decide, by decide⟩, ⟨fun _ => ⟨fun _ => ⟨fun _ => ⟨fun _ => ⟨fun _ => ⟨fun _ => ⟨fun _ => ⟨fun q => absurd rfl q, fun _ => ⟨q0, q1, ?_⟩⟩, fun q => absurd q (by decide)⟩, fun q => absurd q (by decide)⟩, fun q => absurd q (by decide)⟩, fun q => absurd q (by decide)⟩, fun q => absurd q (by decide)⟩, fun q => absurd q (by decide)⟩, fun q => absurd q (by decide)⟩⟩⟩
  generalize hB1 : u2 (u2 B 64 0 t) 55 0 (B 53 q) = B1 at k ⊢
  have f46 : B1 46 0 = a := by rw [← hB1, u2_bank (by decide), u2_bank (by decide)]; exact h46
  refine qZ.mono (d := d + 1) (R_emit0 hm (by rw [f46]; exact a0) (by rw [f46]; omega) (by decide) (by decide) (by decide) (by decide) ⟨_, rfl, ?_⟩) (by omega) (fun _ _ q => q)
  have g46 : (em0 B1 5 q 0) 46 0 = a + 1 := by unfold em0; rw [u2_same, f46]
  unfold r_compile_367
  refine qZ.mono (d := d + 1) (R_emit0 hm (by rw [g46]; omega) (by rw [g46]; omega) (by decide) (by decide) (by decide) (by decide) ⟨_, rfl, ?_⟩) (by omega) (fun _ _ q => q)
  have i46 : (em0 (em0 B1 5 q 0) 2 s 0) 46 0 = a + 2 := by rw [em0_46, em0_46, f46]; omega
  unfold r_compile_375
  rw [i46]
  refine ⟨hlz, fun ql => ?_, fun ql => ?_⟩
  · unfold r_compile_396
    refine qZ.mono (d := d + 1) (R_split hm s0 s1 (Or.inl rfl) ⟨rfl, ?_⟩) (by omega) (fun _ _ q => q)
    unfold r_compile_399 r_compile_427
    rw [if_neg ql, if_neg ql] at k
    rw [if_neg (by decide), if_neg (by decide)]
    exact k
  · unfold r_compile_396
    refine qZ.mono (d := d + 1) (R_split hm s0 s1 (Or.inr rfl) ⟨rfl, ?_⟩) (by omega) (fun _ _ q => q)
    unfold r_compile_399 r_compile_427
    rw [if_pos ql, if_pos ql] at k
    rw [if_pos rfl, if_pos rfl]
    exact k
/-- may-be rounds, first time: none, or all tasks of them -/
theorem C_maybe1 (hm : m + 100 < 1000000000) {lz r : Int} (h64 : B 64 0 = t + 1) (t0 : 0 ≤ t) (t1 : t < 5900) (h46 : B 46 0 = a) (h60 : B 60 t = 8) (h61 : B 61 t = x) (h62 : B 62 t = lz) (h63 : B 63 t = -1) (x0 : 0 ≤ x) (x1 : x < 3000) (hr : B 21 x - B 20 x = r) (r0 : 0 ≤ r) (r1 : r ≤ 20)
    (k0 : r = 0 → CL m h0 d (u2 B 64 0 t) Q)
    (k : ¬ r = 0 → ∀ B', B' 64 0 = t + 1 + 2 * r → B' 60 t = 8 → B' 61 t = x → B' 62 t = lz → B' 63 t = a → (∀ i, 0 ≤ i → i < r → B' 60 (t + 1 + 2 * i) = 0 ∧ B' 61 (t + 1 + 2 * i) = B 18 x ∧ B' 60 (t + 2 + 2 * i) = 9) → FrS (TS t) B B' → CL m h0 d B' Q) : CL m h0 d B Q := by
  refine r_compile_16_ok hm ?_
  unfold r_compile_16
  rw [h64, show t + 1 - 1 = t by omega, h60, h61, h62, h63]
  refine ⟨⟨by omega, by omega⟩, fun q => by omega, fun _ => ⟨t0, by omega, ⟨by decide, by decide⟩, ⟨fun _ => ⟨fun _ => ⟨fun _ => ⟨fun _ => ⟨fun _ => ⟨fun _ => ⟨fun _ => ⟨fun _ => ⟨fun q => absurd rfl q, fun _ => ?_⟩, fun q => absurd q (by decide)⟩, fun q => absurd q (by decide)⟩, fun q => absurd q (by decide)⟩, fun q => absurd q (by decide)⟩, fun q => absurd q (by decide)⟩, fun q => absurd q (by decide)⟩, fun q => absurd q (by decide)⟩, fun q => absurd q (by decide)⟩⟩⟩
  generalize hB0 : u2 B 64 0 t = B0 at k0 ⊢
  have f0 : FrS (TS t) B B0 := by rw [← hB0]; exact FrS.u2 FrS.refl (by unfold TS; omega)
  have e64 : B0 64 0 = t := by rw [← hB0, u2_same]
  have e46 : B0 46 0 = a := (f0 46 0 (by unfold TS; omega)).trans h46
  have e2 : B0 21 x - B0 20 x = r := by rw [f0 21 x (by unfold TS; omega), f0 20 x (by unfold TS; omega)]; exact hr
  have L : ∀ (n : Nat) (i : Int) (B1 : qB), i + n = r → 0 ≤ i → B1 64 0 = t + 1 + 2 * i → FrS (TS t) B B1 → B1 60 t = 8 → B1 61 t = x → B1 62 t = lz → B1 63 t = a → (∀ j, 0 ≤ j → j < i → B1 60 (t + 1 + 2 * j) = 0 ∧ B1 61 (t + 1 + 2 * j) = B 18 x ∧ B1 60 (t + 2 + 2 * j) = 9) → ¬ r = 0 → qZ m h0 (d + 2) k_maybe 40 [some (.ref m), some (iv x), none, none, some (iv r), some (iv i), none] [] B1 (fun o B' => o = .inl none ∧ CL m h0 d B' Q) := by
    intro n
    induction n with
    | zero =>
      intro i B1 hi i0 q64 fr q60 q61 q62 q63 qc hr0
      have hir : i = r := by omega
      subst hir
      refine r_maybe_40_ok hm ?_
      unfold r_maybe_40
      exact ⟨⟨by omega, by omega⟩, ⟨by omega, by omega⟩, fun _ => ⟨rfl, k hr0 B1 q64 q60 q61 q62 q63 qc fr⟩, fun q => by omega⟩
    | succ n ih =>
      intro i B1 hi i0 q64 fr q60 q61 q62 q63 qc hr0
      have q18 : B1 18 x = B 18 x := fr 18 x (by unfold TS; omega)
      refine r_maybe_40_ok hm ?_
      unfold r_maybe_40
      rw [q18]
      refine ⟨⟨by omega, by omega⟩, ⟨by omega, by omega⟩, fun q => by omega, fun _ => ⟨x0, x1, ?_⟩⟩
      refine R_later hm (by omega) (by omega) ⟨rfl, ?_⟩
      unfold r_maybe_60
      generalize hB2 : ltB B1 0 (B 18 x) 0 0 = B2
      have p64 : B2 64 0 = t + 2 + 2 * i := by rw [← hB2, ltB_64, q64]; omega
      obtain ⟨p1, p2, -, -⟩ := ltB_top (B := B1) (w := 0) (a := B 18 x) (b := 0) (c := 0)
      rw [hB2, q64] at p1 p2
      have o2 : ∀ bk y, y ≠ t + 1 + 2 * i → bk ≠ 64 → B2 bk y = B1 bk y := fun bk y u v => by rw [← hB2]; exact ltB_old (by omega) v
      refine R_later hm (by omega) (by omega) ⟨rfl, ?_⟩
      unfold r_maybe_69
      obtain ⟨w1, -, -, -⟩ := ltB_top (B := B2) (w := 9) (a := 0) (b := 0) (c := 0)
      rw [p64] at w1
      have o3 : ∀ bk y, y ≠ t + 2 + 2 * i → bk ≠ 64 → ltB B2 9 0 0 0 bk y = B2 bk y := fun bk y u v => ltB_old (by omega) v
      refine ih (i + 1) _ (by omega) (by omega) (by rw [ltB_64, p64]; omega) (ltB_fr (by rw [← hB2]; exact ltB_fr fr (by omega)) (by omega)) (by rw [o3 60 t (by omega) (by decide), o2 60 t (by omega) (by decide)]; exact q60) (by rw [o3 61 t (by omega) (by decide), o2 61 t (by omega) (by decide)]; exact q61) (by rw [o3 62 t (by omega) (by decide), o2 62 t (by omega) (by decide)]; exact q62) (by rw [o3 63 t (by omega) (by decide), o2 63 t (by omega) (by decide)]; exact q63) (fun j j0 j1 => ?_) hr0
      by_cases hj : j = i
      · subst hj
        rw [o3 60 _ (by omega) (by decide), o3 61 _ (by omega) (by decide)]
        exact ⟨p1, p2, w1⟩
      · rw [o3 60 _ (by omega) (by decide), o3 61 _ (by omega) (by decide), o2 60 _ (by omega) (by decide), o2 61 _ (by omega) (by decide), o3 60 _ (by omega) (by decide), o2 60 _ (by omega) (by decide)]
        exact qc j j0 (by omega)
  have hmb : qZ m h0 (d + 2) k_maybe 0 [some (.ref m), some (iv x), some (iv lz), some (iv (-1)), none, none, none] [] B0 (fun o B' => o = .inl none ∧ CL m h0 d B' Q) := by
    refine r_maybe_0_ok hm ?_
    unfold r_maybe_0
    rw [e2, e46]
    refine ⟨x0, x1, ⟨by omega, by omega⟩, fun q => ⟨⟨by decide, by decide⟩, fun q2 => absurd q2 (by decide), fun _ => ?_⟩, fun q => ⟨rfl, k0 q⟩⟩
    refine R_later hm (by omega) (by omega) ⟨rfl, ?_⟩
    unfold r_maybe_37
    obtain ⟨p1, p2, p3, p4⟩ := ltB_top (B := B0) (w := 8) (a := x) (b := lz) (c := a)
    rw [e64] at p1 p2 p3 p4
    exact L r.toNat 0 _ (by omega) (by omega) (by rw [ltB_64, e64]; omega) (ltB_fr f0 (by omega)) p1 p2 p3 p4 (fun j j0 j1 => by omega) q
  exact hmb.mono (Nat.le_refl _) (fun o B' h => ⟨h.1, by unfold r_compile_416 r_compile_427; exact h.2⟩)
theorem iDiv_ex {r c : Int} (r0 : 1 ≤ r) (r1 : r ≤ 20) (c0 : 0 ≤ c) (c1 : c ≤ 6000) : iDiv (r * c) r = c := by
  have h1 : 0 ≤ r * c := Int.mul_nonneg (by omega) c0
  have h2 : r * c ≤ 20 * 6000 := Int.le_trans (Int.mul_le_mul_of_nonneg_right r1 c0) (Int.mul_le_mul_of_nonneg_left c1 (by omega))
  have hn : Int32.ofInt r ≠ -1 := by
    intro e
    have := congrArg Int32.toInt e
    rw [i32_in ⟨by omega, by omega⟩] at this
    have h9 : (-1 : Int32).toInt = -1 := by decide
    omega
  unfold iDiv
  rw [Int32.toInt_div_of_ne_right _ _ hn, i32_in ⟨by omega, by omega⟩, i32_in ⟨by omega, by omega⟩, Int.mul_comm, Int.mul_tdiv_cancel _ (by omega)]
/-- may-be rounds, second time: their splits are set -/
theorem C_maybe2 (hm : m + 100 < 1000000000) {lz r f c : Int} (h64 : B 64 0 = t + 1) (t0 : 0 ≤ t) (t1 : t < 6000) (h46 : B 46 0 = a) (h60 : B 60 t = 8) (h61 : B 61 t = x) (h62 : B 62 t = lz) (h63 : B 63 t = f) (hlz : R32 lz) (x0 : 0 ≤ x) (x1 : x < 3000) (hr : B 21 x - B 20 x = r) (r0 : 1 ≤ r) (r1 : r ≤ 20) (f0 : 0 ≤ f) (c0 : 1 ≤ c) (c1 : c ≤ 6000) (ha : a = f + r * c) (a1 : a < 6000)
    (k : ∀ B', (∀ j, 0 ≤ j → j < r → B' 43 (f + j * c) = (if lz = 1 then a else f + j * c + 1) ∧ B' 44 (f + j * c) = (if lz = 1 then f + j * c + 1 else a)) → B' 64 0 = t → (∀ b y, (b ≠ 43 ∧ b ≠ 44 ∧ b ≠ 64) → B' b y = B b y) → (∀ b y, (b = 43 ∨ b = 44) → (y < f ∨ ∀ j, 0 ≤ j → j < r → y ≠ f + j * c) → B' b y = B b y) → CL m h0 d B' Q) : CL m h0 d B Q := by
  have hrc : 0 ≤ r * c := Int.mul_nonneg (by omega) (by omega)
  refine r_compile_16_ok hm ?_
  unfold r_compile_16
  rw [h64, show t + 1 - 1 = t by omega, h60, h61, h62, h63]
  refine ⟨⟨by omega, by omega⟩, fun q => by omega, fun _ => ⟨t0, by omega, ⟨by decide, by decide⟩, ⟨fun _ => ⟨fun _ => ⟨fun _ => ⟨fun _ => ⟨fun _ => ⟨fun _ => ⟨fun _ => ⟨fun _ => ⟨fun q => absurd rfl q, fun _ => ?_⟩, fun q => absurd q (by decide)⟩, fun q => absurd q (by decide)⟩, fun q => absurd q (by decide)⟩, fun q => absurd q (by decide)⟩, fun q => absurd q (by decide)⟩, fun q => absurd q (by decide)⟩, fun q => absurd q (by decide)⟩, fun q => absurd q (by decide)⟩⟩⟩
  generalize hB0 : u2 B 64 0 t = B0
  have e64 : B0 64 0 = t := by rw [← hB0, u2_same]
  have eo : ∀ b y, b ≠ 64 → B0 b y = B b y := fun b y q => by rw [← hB0, u2_bank q]
  have L : ∀ (n : Nat) (i : Int) (B1 : qB), i + n = r → 0 ≤ i → B1 64 0 = t → (∀ j, 0 ≤ j → j < i → B1 43 (f + j * c) = (if lz = 1 then a else f + j * c + 1) ∧ B1 44 (f + j * c) = (if lz = 1 then f + j * c + 1 else a)) → (∀ b y, (b ≠ 43 ∧ b ≠ 44 ∧ b ≠ 64) → B1 b y = B b y) → (∀ b y, (b = 43 ∨ b = 44) → (y < f ∨ ∀ j, 0 ≤ j → j < r → y ≠ f + j * c) → B1 b y = B b y) → qZ m h0 (d + 2) k_maybe 90 [some (.ref m), none, some (iv lz), some (iv f), some (iv r), some (iv c), some (iv i)] [] B1 (fun o B' => o = .inl none ∧ CL m h0 d B' Q) := by
    intro n
    induction n with
    | zero =>
      intro i B1 hi i0 q64 qs qo qo2
      have hir : i = r := by omega
      subst hir
      refine r_maybe_90_ok hm ?_
      unfold r_maybe_90
      exact ⟨⟨by omega, by omega⟩, ⟨by omega, by omega⟩, fun _ => ⟨rfl, k B1 qs q64 qo qo2⟩, fun q => by omega⟩
    | succ n ih =>
      intro i B1 hi i0 q64 qs qo qo2
      have hic := mul_in i0 (show i < r by omega) (show 0 ≤ c by omega)
      have q46 : B1 46 0 = a := (qo 46 0 (by decide)).trans h46
      have st : ∀ z, (z = 0 ∨ z = 1) → (z = 1 ↔ lz = 1) → r_maybe_128 m h0 (d + 1) lz f r c i (f + i * c) (f + i * c + 1) a z B1 (fun o B' => o = .inl none ∧ CL m h0 d B' Q) := by
        intro z hz hzl
        unfold r_maybe_128
        refine R_split hm (by omega) (by omega) hz ⟨rfl, ?_⟩
        unfold r_maybe_131
        have hne : ∀ j, 0 ≤ j → j < i → f + j * c ≠ f + i * c := by
          intro j j0 j1 e
          have := mul_in j0 j1 (show 0 ≤ c by omega)
          omega
        refine ih (i + 1) _ (by omega) (by omega) (by rw [u2_bank (by decide), u2_bank (by decide)]; exact q64) (fun j j0 j1 => ?_) (fun b y q => by rw [u2_bank q.2.1, u2_bank q.1]; exact qo b y q) (fun b y q q2 => ?_)
        · by_cases hj : j = i
          · subst hj
            rw [u2_bank (by decide), u2_same, u2_same]
            by_cases hl : lz = 1
            · rw [if_pos (hzl.mpr hl), if_pos (hzl.mpr hl), if_pos hl, if_pos hl]; exact ⟨rfl, rfl⟩
            · rw [if_neg (fun e => hl (hzl.mp e)), if_neg (fun e => hl (hzl.mp e)), if_neg hl, if_neg hl]; exact ⟨rfl, rfl⟩
          · have := hne j j0 (by omega)
            rw [u2_idx this, u2_idx this, u2_idx this, u2_idx this]
            exact qs j j0 (by omega)
        · have hy : y ≠ f + i * c := by
            rcases q2 with q2 | q2
            · omega
            · exact q2 i i0 (by omega)
          rw [u2_idx hy, u2_idx hy]
          exact qo2 b y q q2
      refine r_maybe_90_ok hm ?_
      unfold r_maybe_90
      rw [q46]
      exact ⟨⟨by omega, by omega⟩, ⟨by omega, by omega⟩, fun q => by omega, fun _ => ⟨hlz, fun q => st 0 (Or.inl rfl) ⟨fun e => absurd e (by decide), fun e => absurd e q⟩, fun q => st 1 (Or.inr rfl) ⟨fun _ => q, fun _ => rfl⟩⟩⟩
  have e2 : B0 21 x - B0 20 x = r := by rw [eo 21 x (by decide), eo 20 x (by decide)]; exact hr
  have e46 : B0 46 0 = a := by rw [eo 46 0 (by decide)]; exact h46
  have hmb : qZ m h0 (d + 2) k_maybe 0 [some (.ref m), some (iv x), some (iv lz), some (iv f), none, none, none] [] B0 (fun o B' => o = .inl none ∧ CL m h0 d B' Q) := by
    refine r_maybe_0_ok hm ?_
    unfold r_maybe_0
    rw [e2, e46]
    refine ⟨x0, x1, ⟨by omega, by omega⟩, fun q => ⟨⟨by omega, by omega⟩, fun _ => ⟨q, ?_⟩, fun q2 => by omega⟩, fun q => by omega⟩
    rw [show a - f = r * c by omega, iDiv_ex r0 r1 (by omega) c1]
    exact L r.toNat 0 B0 (by omega) (by omega) e64 (fun j j0 j1 => by omega) (fun b y q => eo b y q.2.2) (fun b y q q2 => eo b y (by omega))
  exact hmb.mono (Nat.le_refl _) (fun o B' h => ⟨h.1, by unfold r_compile_416 r_compile_427; exact h.2⟩)
end RST
