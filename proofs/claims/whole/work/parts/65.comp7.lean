/-! THE REFERENCE'S COMPILER: all trees -/
theorem TT_mulR (k : Int) {u : qT} (hu : TT u) : TT (.mulR u k) := by
  intro m h0 d Q x a t ctx B hm hn hw hN hM hX t0 h60 h61 ha ht hs hk hL kk
  obtain ⟨n1, n2, n3, n4, n5, n6, n7, n8, n9⟩ := hn
  obtain ⟨g1, g2, g3, g4, g5, g6, g7⟩ := hw
  have hth : th (.mulR u k) = 43 + th u := rfl
  have hc : cl (.mulR u k) = rl k * cl u + (if rh k < 0 then cl u + 4 else (rh k - rl k) * (cl u + 1)) + (if rg k = 2 then 2 else 0) := rfl
  have hcs : cs (.mulR u k) = rl k * cs u + (if rh k < 0 then cs u + 1 else (rh k - rl k) * (cs u + 1)) + (if rg k = 2 then 1 else 0) := rfl
  have hcm : cm (.mulR u k) = rl k * cm u + (if rh k < 0 then cm u + 1 else (rh k - rl k) * cm u) := rfl
  have hsd : sd (.mulR u k) = max 0 (sd u + 1) := rfl
  obtain ⟨nu, ns, nm⟩ := cl_nn u g7
  have tu := th_pos u
  have a0 : 0 ≤ a := hX.2.2.2.2.2.1
  have hsp : 0 ≤ B 48 0 := hX.2.2.2.2.2.2.2.1
  have hmk : 0 ≤ B 47 0 := hX.2.2.2.2.2.2.2.2.1
  have lc : 0 ≤ rl k * cl u := Int.mul_nonneg g1 nu
  have ls : 0 ≤ rl k * cs u := Int.mul_nonneg g1 ns
  have lm : 0 ≤ rl k * cm u := Int.mul_nonneg g1 nm
  have hx0 : 0 ≤ (if rh k < 0 then cl u + 4 else (rh k - rl k) * (cl u + 1)) := by
    split
    · omega
    · exact Int.mul_nonneg (by omega) (by omega)
  have hy0 : 0 ≤ (if rh k < 0 then cs u + 1 else (rh k - rl k) * (cs u + 1)) := by
    split
    · omega
    · exact Int.mul_nonneg (by omega) (by omega)
  have hz0 : 0 ≤ (if rh k < 0 then cm u + 1 else (rh k - rl k) * cm u) := by
    split
    · omega
    · exact Int.mul_nonneg (by omega) nm
  generalize hXc : (if rh k < 0 then cl u + 4 else (rh k - rl k) * (cl u + 1)) = Xc at *
  generalize hXs : (if rh k < 0 then cs u + 1 else (rh k - rl k) * (cs u + 1)) = Xs at *
  generalize hXm : (if rh k < 0 then cm u + 1 else (rh k - rl k) * cm u) = Xm at *
  obtain ⟨hX0, f0⟩ := X_pop hX t0
  have e48 : (u2 B 64 0 t) 48 0 = B 48 0 := u2_bank (by decide)
  have e47 : (u2 B 64 0 t) 47 0 = B 47 0 := u2_bank (by decide)
  by_cases hg : rg k = 2
  · rw [if_pos hg] at hc hcs
    have h17 : (B 17 x = 5 ∧ (0 : Int) = 1) ∨ (B 17 x = 6 ∧ (0 : Int) = 2) ∨ (B 17 x = 3 ∧ B 22 x = 2 ∧ (0 : Int) = 0) := Or.inr (Or.inr ⟨n3, n7.trans hg, rfl⟩)
    refine D_sub hm (kd := 0) hX t0 (by omega) (by omega) (by omega) h60 h61 n1 (by omega) h17 ?_
    rw [if_pos n3, if_pos n3]
    obtain ⟨x1, x2, x3, x4, x5, x6, x7, x8, x9⟩ := X_em1 (c := 6) (x := 0) (y := 0) hX0 (Or.inr rfl) (by omega)
    rw [e48, e47] at x2
    rw [e48] at x3 x8
    rw [e47] at x4
    generalize u2 (em1 (u2 B 64 0 t) 6 0 0 ctx.length) 46 0 (a + 1) = E at *
    have fE : FrS (CF a t (B 48 0) (B 47 0)) B E := CF_tr (TS_to f0) x2 (Int.le_refl _) (Int.le_refl _) (Int.le_refl _) (Int.le_refl _)
    obtain ⟨y1, y2, y3, y4, y5, -⟩ := X_lt (w := 4) (x := a) (y := ctxH ctx) (z := 0) x1
    generalize ltB E 4 a (ctxH ctx) 0 = B1 at *
    have pX : CX (u2 B1 55 0 (-1)) [] (a + 1) (t + 1) := by
      obtain ⟨i1, i2, i3, i4, i5, i6, i7, i8, i9, i10⟩ := y1
      exact ⟨by rw [u2_bank (by decide)]; exact i1, by rw [u2_bank (by decide)]; exact i2, u2_same, trivial, fun q hq => by simp at hq, i6, i7, by rw [u2_bank (by decide)]; exact i8, by rw [u2_bank (by decide)]; exact i9, GI_eq i10 (fun b y q => u2_bank (by omega))⟩
    have chB : CH B1 ctx ∧ (∀ q ∈ ctx, q < B1 47 0) := ⟨y1.2.2.2.1, y1.2.2.2.2.1⟩
    have sP : ∀ b y, b ≠ 55 → (u2 B1 55 0 (-1)) b y = B1 b y := fun b y q => u2_bank q
    have fP : FrS (CF a t (B 48 0) (B 47 0)) B (u2 B1 55 0 (-1)) := FrS.u2 (CF_tr fE (TS_to (a := a) (sp := B 48 0) (mk := B 47 0) y2) (Int.le_refl _) (Int.le_refl _) (Int.le_refl _) (Int.le_refl _)) (by unfold CF; omega)
    generalize u2 B1 55 0 (-1) = P at *
    obtain ⟨z1, z2, z3, z4, z5, -⟩ := X_lt (w := 5) (x := x) (y := 0) (z := 0) pX
    generalize ltB P 5 x 0 0 = B2 at *
    have f2 : FrS (CF a t (B 48 0) (B 47 0)) B B2 := CF_tr fP (TS_to (a := a) (sp := B 48 0) (mk := B 47 0) z2) (Int.le_refl _) (by omega) (Int.le_refl _) (Int.le_refl _)
    have s2 : ∀ b y, b < 60 → b ≠ 55 → B2 b y = E b y := by
      intro b y q q2
      rw [z2 b y (by unfold TS; omega), sP b y q2]
      exact y2 b y (by unfold TS; omega)
    have k48 : B2 48 0 = B 48 0 + 1 := (s2 48 0 (by decide) (by decide)).trans x3
    have k47 : B2 47 0 = B 47 0 := (s2 47 0 (by decide) (by decide)).trans x4
    have g60 : B2 60 t = 4 := by rw [z2 60 t (by unfold TS; omega), sP 60 t (by decide)]; exact y3
    have g61 : B2 61 t = a := by rw [z2 61 t (by unfold TS; omega), sP 61 t (by decide)]; exact y4
    have g62 : B2 62 t = ctxH ctx := by rw [z2 62 t (by unfold TS; omega), sP 62 t (by decide)]; exact y5
    have hch2 : CH B2 ctx := CH_eq ctx (fun q _ => by rw [z2 53 q (by unfold TS; omega), sP 53 q (by decide)]) chB.1
    have hlt2 : ∀ q ∈ ctx, q < B 47 0 := fun q hq => by
      have := chB.2 q hq
      rw [y2 47 0 (by unfold TS; omega), x4] at this
      exact this
    refine reps hu hm (x := x) (a := a + 1) (t := t + 1) (g := 0) (l := rl k) (h := rh k) (ctx := []) (B := B2) g7 (by rw [CF41 f2 (b := 18) (by decide)]; exact nd_CF f2 n4) n1 (by omega) (by rw [CF41 f2 (by decide)]; exact hN) (by rw [CF41 f2 (by decide)]; exact hM) z1 (by omega) z3 z4 z5 ⟨by decide, by decide⟩ (by rw [CF41 f2 (by decide)]; exact n5) (by rw [CF41 f2 (by decide)]; exact n6) g1 g2 g3 g4 (by rw [hXc]; omega) (by omega) (by rw [hXs]; omega) (by rw [hXm]; omega) (by simp only [List.length_nil]; omega) (by simp) (fun B3 q1 q2 q3 q4 q5 => ?_)
    rw [hXc] at q1
    rw [hXs] at q2
    rw [hXm] at q3
    rw [k47] at q5
    have r60 : B3 60 t = 4 := (q4 60 t (by unfold CF; omega)).trans g60
    have r61 : B3 61 t = a := (q4 61 t (by unfold CF; omega)).trans g61
    have r62 : B3 62 t = ctxH ctx := (q4 62 t (by unfold CF; omega)).trans g62
    have f3 : FrS (CF a t (B 48 0) (B 47 0)) B B3 := CF_tr f2 q4 (by omega) (by omega) (by omega) (by omega)
    refine sub_end hm (ctx := ctx) (a := a) (b := a + 1 + rl k * cl u + Xc) q1 t0 (by omega) r60 r61 r62 a0 (by omega) (by omega) (CH_eq ctx (fun q hq => q4 53 q (by unfold CF; have := hlt2 q hq; omega)) hch2) (fun q hq => by have := hlt2 q hq; omega) (fun B6 k1 k2 k3 k4 k5 k6 k7 => ?_)
    have sta : ∀ b, 42 ≤ b → b ≤ 45 → b ≠ 44 → B6 b a = E b a := by
      intro b p1 p2 p3
      rw [k7 b a p1 p2 (by omega) (by omega), q4 b a (by unfold CF; omega)]
      exact s2 b a (by omega) (by omega)
    refine kk B6 (by rw [show a + cl (.mulR u k) = a + 1 + rl k * cl u + Xc + 1 by omega]; exact k1) (by omega) (by omega) (CF_tr f3 k6 (Int.le_refl _) (Int.le_refl _) (by omega) (by omega)) ?_
    show (if rg k = 2 then _ else _)
    rw [if_pos hg]
    refine ⟨(sta 42 (by decide) (by decide) (by decide)).trans x5, (sta 43 (by decide) (by decide) (by decide)).trans x6, by rw [k5]; omega, ?_, ?_, ?_⟩
    · refine SpA_fr (S := B 48 0 + 1) (sta 45 (by decide) (by decide) (by decide)) (fun y _ y1 => ?_) (fun y _ y1 => ?_) (by omega) x8
      · rw [k6 52 y (by unfold CF; omega), q4 52 y (by unfold CF; omega)]; exact s2 52 y (by decide) (by decide)
      · rw [k6 54 y (by unfold CF; omega), q4 54 y (by unfold CF; omega)]; exact s2 54 y (by decide) (by decide)
    · refine Rp_fr nu g1 g3 (fun b y b1 b2 y1 y2 => k7 b y b1 b2 (by rw [hXc] at y2; exact y2) (by omega)) (fun y _ _ => k6 52 y (by unfold CF; omega)) (fun y _ _ => k6 54 y (by unfold CF; omega)) (fun y _ _ => k6 53 y (by unfold CF; omega)) (by omega) (by omega) (fun z cx zj z1 z2 hs => ?_) q5
      rw [hXc] at z2
      exact Seg_st (t := t) (CF_mono k6 (by omega) (Int.le_refl _) (Int.le_refl _) (Int.le_refl _)) g7 (fun b y p1 p2 p3 p4 => k7 b y p1 p2 (by omega) (by omega)) (by omega) (by omega) hs
    · rw [show a + cl (.mulR u k) - 1 = a + 1 + rl k * cl u + Xc by omega]; exact k4
  · rw [if_neg hg] at hc hcs
    refine D_rep hm hX t0 (by omega) h60 h61 n1 (by omega) n3 (by rw [n7]; exact ⟨by omega, by omega⟩) (by rw [n7]; exact hg) ?_
    rw [n7]
    obtain ⟨z1, z2, z3, z4, z5, -⟩ := X_lt (w := 5) (x := x) (y := rg k) (z := 0) hX0
    generalize ltB (u2 B 64 0 t) 5 x (rg k) 0 = B2 at *
    have fT : FrS (TS t) B B2 := FrS.tr f0 z2
    have f2 : FrS (CF a t (B 48 0) (B 47 0)) B B2 := TS_to fT
    have k48 : B2 48 0 = B 48 0 := fT 48 0 (by unfold TS; omega)
    have k47 : B2 47 0 = B 47 0 := fT 47 0 (by unfold TS; omega)
    refine reps hu hm (x := x) (a := a) (t := t) (g := rg k) (l := rl k) (h := rh k) (ctx := ctx) (B := B2) g7 (by rw [CF41 f2 (b := 18) (by decide)]; exact nd_CF f2 n4) n1 (by omega) (by rw [CF41 f2 (by decide)]; exact hN) (by rw [CF41 f2 (by decide)]; exact hM) z1 t0 z3 z4 z5 ⟨by omega, by omega⟩ (by rw [CF41 f2 (by decide)]; exact n5) (by rw [CF41 f2 (by decide)]; exact n6) g1 g2 g3 g4 (by rw [hXc]; omega) (by omega) (by rw [hXs]; omega) (by rw [hXm]; omega) (by omega) (by omega) (fun B3 q1 q2 q3 q4 q5 => ?_)
    rw [hXc] at q1
    rw [hXs] at q2
    rw [hXm] at q3
    rw [k47] at q5
    refine kk B3 (by rw [show a + cl (.mulR u k) = a + rl k * cl u + Xc by omega]; exact q1) (by omega) (by omega) (CF_tr f2 q4 (Int.le_refl _) (Int.le_refl _) (by omega) (by omega)) ?_
    show (if rg k = 2 then _ else _)
    rw [if_neg hg]
    exact q5
theorem TT_all : ∀ e : qT, TT e := by
  intro e
  induction e with
  | num k => exact TT_num k
  | var s => exact TT_var s
  | add a b h1 h2 => exact TT_add h1 h2
  | sub a b h1 h2 => exact TT_sub h1 h2
  | neg a h => exact TT_neg h
  | mulL k a h => exact TT_mulL k h
  | mulR a k h => exact TT_mulR k h
