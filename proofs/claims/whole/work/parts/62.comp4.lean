/-! THE REFERENCE'S COMPILER: rounds -/
/-- the rounds that must be: n of them are left -/
theorem copies {m : Nat} {h0 : qH} {d : Nat} {Q : qO → qB → Prop} {u : qT} (hu : TT u) (hm : m + 100 < 1000000000) {x y a t sp mk : Int} {ctx : List Int} {B : qB} (hw : wf u) (hn : nd B (B 28 0) (B 29 0) u y) (hN : B 28 0 ≤ 3000) (hM : B 29 0 ≤ 256) (t0 : 0 ≤ t) (hL : ctx.length + sd u ≤ 10) : ∀ (n : Nat) (i : Int) (Bi : qB), 0 ≤ i → CX Bi ctx (a + i * cl u) (t + 1 + n) → (∀ j, t + 1 ≤ j → j < t + 1 + n → Bi 60 j = 0 ∧ Bi 61 j = y) → t + 1 + n + th u ≤ 5880 → a + (i + n) * cl u ≤ 5980 → Bi 48 0 = sp + i * cs u → sp + (i + n) * cs u ≤ 1990 → Bi 47 0 = mk + i * cm u → mk + (i + n) * cm u ≤ 790 → 0 ≤ sp → 0 ≤ mk → FrS (CF a (t + 1) sp mk) B Bi → (∀ j, 0 ≤ j → j < i → Seg Bi (Bi 48 0) (Bi 47 0) u (a + j * cl u) ctx (mk + j * cm u)) →
    (∀ B', CX B' ctx (a + (i + n) * cl u) (t + 1) → B' 48 0 = sp + (i + n) * cs u → B' 47 0 = mk + (i + n) * cm u → FrS (CF a (t + 1) sp mk) B B' → (∀ j, 0 ≤ j → j < i + n → Seg B' (B' 48 0) (B' 47 0) u (a + j * cl u) ctx (mk + j * cm u)) → CL m h0 d B' Q) → CL m h0 d Bi Q := by
  obtain ⟨nu, ns, nm⟩ := cl_nn u hw
  intro n
  induction n with
  | zero =>
    intro i Bi i0 hX hT ht ha h48 hs h47 hk sp0 mk0 fr hS kk
    have e : i + ((0 : Nat) : Int) = i := by simp
    rw [e] at kk
    refine kk Bi ?_ h48 h47 fr hS
    have e2 : t + 1 + ((0 : Nat) : Int) = t + 1 := by simp
    rw [e2] at hX
    exact hX
  | succ n ih =>
    intro i Bi i0 hX hT ht ha h48 hs h47 hk sp0 mk0 fr hS kk
    have en : i + ((n + 1 : Nat) : Int) = i + 1 + (n : Int) := by omega
    rw [en] at ha hs hk kk
    have ic := Int.mul_nonneg i0 nu
    have is := Int.mul_nonneg i0 ns
    have im := Int.mul_nonneg i0 nm
    have m1 : (i + 1) * cl u = i * cl u + cl u := by rw [Int.add_mul, Int.one_mul]
    have m2 : (i + 1) * cs u = i * cs u + cs u := by rw [Int.add_mul, Int.one_mul]
    have m3 : (i + 1) * cm u = i * cm u + cm u := by rw [Int.add_mul, Int.one_mul]
    have l1 : (i + 1) * cl u ≤ (i + 1 + n) * cl u := Int.mul_le_mul_of_nonneg_right (by omega) nu
    have l2 : (i + 1) * cs u ≤ (i + 1 + n) * cs u := Int.mul_le_mul_of_nonneg_right (by omega) ns
    have l3 : (i + 1) * cm u ≤ (i + 1 + n) * cm u := Int.mul_le_mul_of_nonneg_right (by omega) nm
    obtain ⟨p1, p2⟩ := hT (t + 1 + n) (by omega) (by omega)
    refine hu m h0 d Q y (a + i * cl u) (t + 1 + n) ctx Bi hm (nd_CF fr hn) hw (by rw [CF41 fr (by decide)]; exact hN) (by rw [CF41 fr (by decide)]; exact hM) (by rw [show t + 1 + (n : Int) + 1 = t + 1 + ((n + 1 : Nat) : Int) by omega]; exact hX) (by omega) p1 p2 (by omega) (by omega) (by omega) (by omega) hL (fun B' q1 q2 q3 q4 q5 => ?_)
    refine ih (i + 1) B' (by omega) (by rw [m1, ← Int.add_assoc]; exact q1) (fun j j1 j2 => ?_) (by omega) ha (by omega) hs (by omega) hk sp0 mk0 (CF_tr fr q4 (by omega) (by omega) (by omega) (by omega)) (fun j j0 j1 => ?_) kk
    · rw [q4 60 j (by unfold CF; omega), q4 61 j (by unfold CF; omega)]
      exact hT j j1 (by omega)
    · by_cases hj : j = i
      · rw [hj]; exact Seg_J q5 h47
      · have := mul_in j0 (show j < i by omega) nu
        exact Seg_CF (t := 0) q4 hw (by omega) (by omega) (by omega) (hS j j0 (by omega))
set_option maxHeartbeats 8000000 in
/-- rounds without bound -/
theorem star {m : Nat} {h0 : qH} {d : Nat} {Q : qO → qB → Prop} {u : qT} (hu : TT u) (hm : m + 100 < 1000000000) {x b t g : Int} {ctx : List Int} {B : qB} (hw : wf u) (hn : nd B (B 28 0) (B 29 0) u (B 18 x)) (x0 : 0 ≤ x) (x1 : x < 3000) (hN : B 28 0 ≤ 3000) (hM : B 29 0 ≤ 256) (hX : CX B ctx b (t + 1)) (t0 : 0 ≤ t) (h60 : B 60 t = 6) (h61 : B 61 t = x) (h62 : B 62 t = g) (hg : R32 g) (hb : b + cl u + 4 ≤ 5980) (ht : t + 2 + th u ≤ 5880) (hs : B 48 0 + cs u + 1 ≤ 1990) (hk : B 47 0 + cm u + 1 ≤ 790) (hL : ctx.length + 1 + sd u ≤ 10) (hL0 : ctx.length ≤ 10)
    (kk : ∀ B', CX B' ctx (b + cl u + 4) t → B' 48 0 = B 48 0 + cs u + 1 → B' 47 0 = B 47 0 + cm u + 1 → FrS (CF b t (B 48 0) (B 47 0)) B B' → (B' 42 b = 1 ∧ SpA B' (B' 48 0) b ctx ∧ B' 43 b = (if g = 1 then b + cl u + 4 else b + 1) ∧ B' 44 b = (if g = 1 then b + 1 else b + cl u + 4) ∧ B' 42 (b + 1) = 4 ∧ 0 ≤ B' 43 (b + 1) ∧ B' 43 (b + 1) < B' 47 0 ∧ (¬ B' 43 (b + 1) ∈ ctx ∧ B' 43 (b + 1) = B 47 0) ∧ B' 53 (B' 43 (b + 1)) = ctxH ctx ∧ Seg B' (B' 48 0) (B' 47 0) u (b + 2) (B' 43 (b + 1) :: ctx) (B 47 0 + 1) ∧ B' 42 (b + cl u + 2) = 5 ∧ B' 43 (b + cl u + 2) = B' 43 (b + 1) ∧ B' 42 (b + cl u + 3) = 2 ∧ B' 43 (b + cl u + 3) = b) → CL m h0 d B' Q) : CL m h0 d B Q := by
  obtain ⟨nu, ns, nm⟩ := cl_nn u hw
  have tu := th_pos u
  have b0 : 0 ≤ b := hX.2.2.2.2.2.1
  have hmk : 0 ≤ B 47 0 := hX.2.2.2.2.2.2.2.2.1
  have hctx : ∀ q ∈ ctx, q < B 47 0 := hX.2.2.2.2.1
  obtain ⟨hX0, f0⟩ := X_pop hX t0
  have e48 : (u2 B 64 0 t) 48 0 = B 48 0 := u2_bank (by decide)
  have e47 : (u2 B 64 0 t) 47 0 = B 47 0 := u2_bank (by decide)
  refine C_star hm hX t0 (by omega) (by omega) (by omega) (by omega) h60 h61 x0 x1 ?_
  rw [h62]
  obtain ⟨x1', x2, x3, x4, x5, x6, x7, x8, x9⟩ := X_em1 (c := 1) (x := 0) (y := 0) hX0 (Or.inl rfl) hL0
  rw [e48, e47] at x2
  rw [e48] at x3 x8
  rw [e47] at x4
  generalize u2 (em1 (u2 B 64 0 t) 1 0 0 ctx.length) 46 0 (b + 1) = E at *
  have fE : FrS (CF b t (B 48 0) (B 47 0)) B E := CF_tr (TS_to f0) x2 (Int.le_refl _) (Int.le_refl _) (Int.le_refl _) (Int.le_refl _)
  -- one mark more
  have pX : CX (u2 E 47 0 (B 47 0 + 1)) ctx (b + 1) t := by
    obtain ⟨i1, i2, i3, i4, i5, i6, i7, i8, i9, i10⟩ := x1'
    exact ⟨by rw [u2_bank (by decide)]; exact i1, by rw [u2_bank (by decide)]; exact i2, by rw [u2_bank (by decide)]; exact i3, CH_u2 i4 (by decide), fun q hq => by rw [u2_same]; have := hctx q hq; omega, i6, i7, by rw [u2_bank (by decide)]; exact i8, by rw [u2_same]; omega, GI_eq i10 (fun c y q => u2_bank (by omega))⟩
  have fP : FrS (CF b t (B 48 0) (B 47 0)) B (u2 E 47 0 (B 47 0 + 1)) := FrS.u2 fE (by unfold CF; omega)
  have sP : ∀ c y, c ≠ 47 → (u2 E 47 0 (B 47 0 + 1)) c y = E c y := fun c y q => u2_bank q
  have p47 : (u2 E 47 0 (B 47 0 + 1)) 47 0 = B 47 0 + 1 := u2_same
  generalize u2 E 47 0 (B 47 0 + 1) = P at *
  obtain ⟨w1, w2, w3, w4, w5, w6, w7, w8, w9⟩ := X_em0 (c := 4) (x := B 47 0) (y := 0) pX (by decide) (by decide)
  rw [p47] at w4
  have p48 : P 48 0 = B 48 0 + 1 := (sP 48 0 (by decide)).trans x3
  rw [p48] at w3
  generalize em0 P 4 (B 47 0) 0 = W at *
  have fW : FrS (CF b t (B 48 0) (B 47 0)) B W := CF_tr fP w2 (by omega) (Int.le_refl _) (by omega) (by omega)
  have sW : ∀ c, 42 ≤ c → c ≤ 45 → W c b = E c b := fun c q1 q2 => (w2 c b (by unfold CF; omega)).trans (sP c b (by omega))
  have s52 : ∀ y, W 52 y = E 52 y := fun y => (w9 52 y (by omega)).trans (sP 52 y (by decide))
  have s54 : ∀ y, W 54 y = E 54 y := fun y => (w9 54 y (by omega)).trans (sP 54 y (by decide))
  have vX : CX (u2 (u2 W 53 (B 47 0) (ctxH ctx)) 55 0 (B 47 0)) (B 47 0 :: ctx) (b + 1 + 1) t := by
    obtain ⟨i1, i2, i3, i4, i5, i6, i7, i8, i9, i10⟩ := w1
    refine ⟨by rw [u2_bank (by decide), u2_bank (by decide)]; exact i1, by rw [u2_bank (by decide), u2_bank (by decide)]; exact i2, u2_same, ⟨hmk, by omega, by rw [u2_bank (by decide), u2_same], CH_eq ctx (fun q hq => ?_) i4⟩, fun q hq => ?_, i6, i7, by rw [u2_bank (by decide), u2_bank (by decide)]; exact i8, by rw [u2_bank (by decide), u2_bank (by decide)]; exact i9, GI_eq i10 (fun c y q => by rw [u2_bank (by omega), u2_bank (by omega)])⟩
    · have := hctx q hq
      rw [u2_bank (by decide), u2_idx (by omega)]
    · rw [u2_bank (by decide), u2_bank (by decide), w4]
      rcases List.mem_cons.mp hq with rfl | h
      · omega
      · have := hctx q h; omega
  have fV : FrS (CF b t (B 48 0) (B 47 0)) B (u2 (u2 W 53 (B 47 0) (ctxH ctx)) 55 0 (B 47 0)) := FrS.u2 (FrS.u2 fW (by unfold CF; omega)) (by unfold CF; omega)
  have sV : ∀ c y, c ≠ 53 → c ≠ 55 → (u2 (u2 W 53 (B 47 0) (ctxH ctx)) 55 0 (B 47 0)) c y = W c y := fun c y q1 q2 => by rw [u2_bank q2, u2_bank q1]
  have v53 : (u2 (u2 W 53 (B 47 0) (ctxH ctx)) 55 0 (B 47 0)) 53 (B 47 0) = ctxH ctx := by rw [u2_bank (by decide), u2_same]
  generalize u2 (u2 W 53 (B 47 0) (ctxH ctx)) 55 0 (B 47 0) = V at *
  obtain ⟨y1, y2, y3, y4, y5, y6⟩ := X_lt (w := 7) (x := b) (y := B 47 0) (z := g) vX
  obtain ⟨z1, z2, z3, z4, -, -⟩ := X_lt (w := 0) (x := B 18 x) (y := 0) (z := 0) y1
  generalize ltB V 7 b (B 47 0) g = B1 at *
  generalize ltB B1 0 (B 18 x) 0 0 = B2 at *
  have fVB : FrS (TS t) V B2 := FrS.trans y2 z2 (fun c y q => by unfold TS at q ⊢; omega)
  have f2 : FrS (CF b t (B 48 0) (B 47 0)) B B2 := CF_tr fV (TS_to (a := b) (sp := B 48 0) (mk := B 47 0) fVB) (Int.le_refl _) (Int.le_refl _) (Int.le_refl _) (Int.le_refl _)
  have s2 : ∀ c y, c < 60 → B2 c y = V c y := fun c y q => fVB c y (by unfold TS; omega)
  have k48 : B2 48 0 = B 48 0 + 1 := by rw [s2 48 0 (by decide), sV 48 0 (by decide) (by decide)]; exact w3
  have k47 : B2 47 0 = B 47 0 + 1 := by rw [s2 47 0 (by decide), sV 47 0 (by decide) (by decide)]; exact w4
  have k53 : B2 53 (B 47 0) = ctxH ctx := (s2 53 _ (by decide)).trans v53
  have g60 : B2 60 t = 7 := (z2 60 t (by unfold TS; omega)).trans y3
  have g61 : B2 61 t = b := (z2 61 t (by unfold TS; omega)).trans y4
  have g62 : B2 62 t = B 47 0 := (z2 62 t (by unfold TS; omega)).trans y5
  have g63 : B2 63 t = g := (z2 63 t (by unfold TS; omega)).trans y6
  have c42b : B2 42 b = 1 := by rw [s2 42 b (by decide), sV 42 b (by decide) (by decide), sW 42 (by decide) (by decide)]; exact x5
  have c45b : B2 45 b = E 45 b := by rw [s2 45 b (by decide), sV 45 b (by decide) (by decide), sW 45 (by decide) (by decide)]
  have c42 : B2 42 (b + 1) = 4 := by rw [s2 42 _ (by decide), sV 42 _ (by decide) (by decide)]; exact w5
  have c43 : B2 43 (b + 1) = B 47 0 := by rw [s2 43 _ (by decide), sV 43 _ (by decide) (by decide)]; exact w6
  have d52 : ∀ y, B2 52 y = E 52 y := fun y => by rw [s2 52 y (by decide), sV 52 y (by decide) (by decide)]; exact s52 y
  have d54 : ∀ y, B2 54 y = E 54 y := fun y => by rw [s2 54 y (by decide), sV 54 y (by decide) (by decide)]; exact s54 y
  clear y2 z2 fVB fV sV fW sW s52 s54 fP sP fE x9 w9
  refine hu m h0 d Q (B 18 x) (b + 1 + 1) (t + 1) (B 47 0 :: ctx) B2 hm (nd_CF f2 hn) hw (by rw [CF41 f2 (by decide)]; exact hN) (by rw [CF41 f2 (by decide)]; exact hM) z1 (by omega) z3 z4 (by omega) (by omega) (by omega) (by omega) (by rw [List.length_cons]; omega) (fun B3 q1 q2 q3 q4 q5 => ?_)
  have r60 : B3 60 t = 7 := (q4 60 t (by unfold CF; omega)).trans g60
  have r61 : B3 61 t = b := (q4 61 t (by unfold CF; omega)).trans g61
  have r62 : B3 62 t = B 47 0 := (q4 62 t (by unfold CF; omega)).trans g62
  have r63 : B3 63 t = g := (q4 63 t (by unfold CF; omega)).trans g63
  have r46 : B3 46 0 = b + 1 + 1 + cl u := q1.1
  have r53 : B3 53 (B 47 0) = ctxH ctx := (q4 53 _ (by unfold CF; omega)).trans k53
  refine C_starend hm q1.2.1 t0 (by omega) r46 (by omega) (by omega) r60 r61 r62 r63 b0 (by omega) hmk (by omega) hg ?_
  rw [r53]
  -- the rounds around come back
  have oX : CX (u2 (u2 B3 64 0 t) 55 0 (ctxH ctx)) ctx (b + 1 + 1 + cl u) t := by
    obtain ⟨i1, i2, i3, i4, i5, i6, i7, i8, i9, i10⟩ := q1
    refine ⟨by rw [u2_bank (by decide), u2_bank (by decide)]; exact i1, by rw [u2_bank (by decide), u2_same], u2_same, CH_u2 (CH_u2 i4.2.2.2 (by decide)) (by decide), fun q hq => ?_, i6, t0, by rw [u2_bank (by decide), u2_bank (by decide)]; exact i8, by rw [u2_bank (by decide), u2_bank (by decide)]; exact i9, GI_eq i10 (fun c y q => by rw [u2_bank (by omega), u2_bank (by omega)])⟩
    rw [u2_bank (by decide), u2_bank (by decide)]
    exact i5 q (List.mem_cons_of_mem _ hq)
  have fO : FrS (CF (b + 1 + 1 + cl u) t (B3 48 0) (B3 47 0)) B3 (u2 (u2 B3 64 0 t) 55 0 (ctxH ctx)) := FrS.u2 (FrS.u2 FrS.refl (by unfold CF; omega)) (by unfold CF; omega)
  have o48 : (u2 (u2 B3 64 0 t) 55 0 (ctxH ctx)) 48 0 = B3 48 0 := by rw [u2_bank (by decide), u2_bank (by decide)]
  have o47 : (u2 (u2 B3 64 0 t) 55 0 (ctxH ctx)) 47 0 = B3 47 0 := by rw [u2_bank (by decide), u2_bank (by decide)]
  generalize u2 (u2 B3 64 0 t) 55 0 (ctxH ctx) = O at *
  obtain ⟨a1, a2, a3, a4, a5, a6, a7, a8, a9⟩ := X_em0 (c := 5) (x := B 47 0) (y := 0) oX (by decide) (by decide)
  rw [o48, o47] at a2
  rw [o48] at a3
  rw [o47] at a4
  generalize em0 O 5 (B 47 0) 0 = O1 at *
  obtain ⟨c1, c2, c3, c4, c5, c6, c7, c8, c9⟩ := X_em0 (c := 2) (x := b) (y := 0) a1 (by decide) (by decide)
  rw [a3, a4] at c2
  rw [a3] at c3
  rw [a4] at c4
  generalize em0 O1 2 b 0 = O2 at *
  have fO2 : FrS (CF (b + 1 + 1 + cl u) t (B3 48 0) (B3 47 0)) B3 O2 := CF_tr (CF_tr fO a2 (Int.le_refl _) (Int.le_refl _) (Int.le_refl _) (Int.le_refl _)) c2 (by omega) (Int.le_refl _) (Int.le_refl _) (Int.le_refl _)
  have m5 : O2 42 (b + 1 + 1 + cl u) = 5 := (c2 42 _ (by unfold CF; omega)).trans a5
  have m6 : O2 43 (b + 1 + 1 + cl u) = B 47 0 := (c2 43 _ (by unfold CF; omega)).trans a6
  generalize hB4 : u2 (u2 O2 43 b (if g = 1 then b + 1 + 1 + cl u + 2 else b + 1)) 44 b (if g = 1 then b + 1 else b + 1 + 1 + cl u + 2) = B4
  have s4 : ∀ c y, ¬ ((c = 43 ∨ c = 44) ∧ y = b) → B4 c y = O2 c y := by
    intro c y ne
    rw [← hB4]
    by_cases hy : y = b
    · rw [u2_bank (by omega), u2_bank (by omega)]
    · rw [u2_idx hy, u2_idx hy]
  have f4 : FrS (CF b t (B3 48 0) (B3 47 0)) B3 B4 := by
    intro c y q
    rw [s4 c y (by unfold CF at q; omega)]
    exact fO2 c y (by unfold CF at q ⊢; omega)
  have X4 : CX B4 ctx (b + 1 + 1 + cl u + 1 + 1) t := CX_eq c1 (by rw [s4 64 0 (by omega)]; exact c1.2.1) t0 (fun c y q => s4 c y (by omega))
  have u48 : B4 48 0 = B3 48 0 := (s4 48 0 (by omega)).trans c3
  have u47 : B4 47 0 = B3 47 0 := (s4 47 0 (by omega)).trans c4
  have st : ∀ c y, 42 ≤ c → c ≤ 45 → y < b + 1 + 1 + cl u → ¬ ((c = 43 ∨ c = 44) ∧ y = b) → B4 c y = B3 c y := fun c y p1 p2 p3 p4 => (s4 c y p4).trans (fO2 c y (by unfold CF; omega))
  have h43 : B4 43 (b + 1) = B 47 0 := by rw [st 43 _ (by decide) (by decide) (by omega) (by omega), q4 43 _ (by unfold CF; omega)]; exact c43
  clear c2 c9 a2 a9 fO oX a1 c1 c8 a8 a7 c7 w8 w7 x7 x6 g60 g61 g62 g63 r60 r61 r62 r63 z1 y1 z3 z4 y3 y4 y5 y6 vX pX x1' hX0 f0
  have eb4 : b + 1 + 1 + cl u + 2 = b + cl u + 4 := by omega
  refine kk B4 (by rw [show b + cl u + 4 = b + 1 + 1 + cl u + 1 + 1 by omega]; exact X4) (by omega) (by omega) (CF_tr (CF_tr f2 q4 (by omega) (by omega) (by omega) (by omega)) f4 (Int.le_refl _) (Int.le_refl _) (by omega) (by omega)) ⟨?_, ?_, ?_, ?_, ?_, by omega, by omega, ?_, ?_, ?_, ?_, ?_, ?_, ?_⟩
  · rw [st 42 b (by decide) (by decide) (by omega) (by omega), q4 42 b (by unfold CF; omega)]; exact c42b
  · refine SpA_fr (S := B 48 0 + 1) ?_ (fun y _ y1 => ?_) (fun y _ y1 => ?_) (by omega) x8
    · rw [st 45 b (by decide) (by decide) (by omega) (by omega), q4 45 b (by unfold CF; omega)]; exact c45b
    · rw [f4 52 y (by unfold CF; omega), q4 52 y (by unfold CF; omega)]; exact d52 y
    · rw [f4 54 y (by unfold CF; omega), q4 54 y (by unfold CF; omega)]; exact d54 y
  · rw [← hB4, u2_bank (by decide), u2_same, eb4]
  · rw [← hB4, u2_same, eb4]
  · rw [st 42 _ (by decide) (by decide) (by omega) (by omega), q4 42 _ (by unfold CF; omega)]; exact c42
  · exact ⟨by rw [h43]; exact fun h => absurd (hctx _ h) (by omega), h43⟩
  · rw [h43, f4 53 _ (by unfold CF; omega)]; exact r53
  · rw [h43, show b + 2 = b + 1 + 1 by omega]
    exact Seg_st (t := t) (CF_mono f4 (by omega) (Int.le_refl _) (Int.le_refl _) (Int.le_refl _)) hw (fun c y p1 p2 p3 p4 => st c y p1 p2 (by omega) (by omega)) (by omega) (by omega) q5
  · rw [show b + cl u + 2 = b + 1 + 1 + cl u by omega, s4 42 _ (by omega)]; exact m5
  · rw [h43, show b + cl u + 2 = b + 1 + 1 + cl u by omega, s4 43 _ (by omega)]; exact m6
  · rw [show b + cl u + 3 = b + 1 + 1 + cl u + 1 by omega, s4 42 _ (by omega)]; exact c5
  · rw [show b + cl u + 3 = b + 1 + 1 + cl u + 1 by omega, s4 43 _ (by omega)]; exact c6
