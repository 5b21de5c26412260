/-! THE REFERENCE'S COMPILER: groups, lookaheads -/
/-- behind a question: its end is laid, the rounds around come back -/
theorem sub_end {m : Nat} {h0 : qH} {d : Nat} {Q : qO → qB → Prop} {B5 : qB} {ctx : List Int} {a b t : Int} (hm : m + 100 < 1000000000) (hX : CX B5 [] b (t + 1)) (t0 : 0 ≤ t) (t1 : t < 6000) (h60 : B5 60 t = 4) (h61 : B5 61 t = a) (h62 : B5 62 t = ctxH ctx) (a0 : 0 ≤ a) (ab : a < b) (b1 : b < 5990) (hch : CH B5 ctx) (hlt : ∀ q ∈ ctx, q < B5 47 0)
    (k : ∀ B6, CX B6 ctx (b + 1) t → B6 48 0 = B5 48 0 → B6 47 0 = B5 47 0 → B6 42 b = 11 → B6 44 a = b + 1 → FrS (CF a t (B5 48 0) (B5 47 0)) B5 B6 → (∀ c y, 42 ≤ c → c ≤ 45 → y < b → ¬ (c = 44 ∧ y = a) → B6 c y = B5 c y) → CL m h0 d B6 Q) : CL m h0 d B5 Q := by
  have h46 : B5 46 0 = b := hX.1
  refine C_subend hm hX.2.1 t0 t1 h60 (by omega) (by omega) (by omega) (by omega) ?_
  rw [h61, h62, h46]
  obtain ⟨c1, c2⟩ := X_pop hX t0
  obtain ⟨w1, w2, w3, w4, w5, w6, w7, w8, w9⟩ := X_em0 (c := 11) (x := 0) (y := 0) c1 (by decide) (by decide)
  have d48 : (u2 B5 64 0 t) 48 0 = B5 48 0 := u2_bank (by decide)
  have d47 : (u2 B5 64 0 t) 47 0 = B5 47 0 := u2_bank (by decide)
  have d53 : ∀ y, (u2 B5 64 0 t) 53 y = B5 53 y := fun y => u2_bank (by decide)
  rw [d48, d47] at w2
  rw [d48] at w3
  rw [d47] at w4
  have w53 : ∀ y, em0 (u2 B5 64 0 t) 11 0 0 53 y = B5 53 y := fun y => (w9 53 y (by omega)).trans (d53 y)
  generalize em0 (u2 B5 64 0 t) 11 0 0 = W1 at *
  have fW1 : FrS (CF b t (B5 48 0) (B5 47 0)) B5 W1 := CF_tr (TS_to c2) w2 (Int.le_refl _) (Int.le_refl _) (Int.le_refl _) (Int.le_refl _)
  obtain ⟨i1, i2, i3, i4, i5, i6, i7, i8, i9, i10⟩ := w1
  have ob : ∀ c y, c ≠ 55 → c ≠ 44 → (u2 (u2 W1 55 0 (ctxH ctx)) 44 a (b + 1)) c y = W1 c y := fun c y p1 p2 => by rw [u2_bank p2, u2_bank p1]
  refine k _ ⟨by rw [ob 46 0 (by decide) (by decide)]; exact i1, by rw [ob 64 0 (by decide) (by decide)]; exact i2, by rw [u2_bank (by decide), u2_same], CH_eq ctx (fun q _ => by rw [ob 53 q (by decide) (by decide)]; exact w53 q) hch, fun q hq => by rw [ob 47 0 (by decide) (by decide), w4]; exact hlt q hq, by omega, t0, by rw [ob 48 0 (by decide) (by decide)]; exact i8, by rw [ob 47 0 (by decide) (by decide)]; exact i9, GI_eq i10 (fun c y q => ob c y (by omega) (by omega))⟩ (by rw [ob 48 0 (by decide) (by decide)]; exact w3) (by rw [ob 47 0 (by decide) (by decide)]; exact w4) (by rw [ob 42 b (by decide) (by decide)]; exact w5) u2_same (FrS.u2 (FrS.u2 (CF_mono fW1 (by omega) (Int.le_refl _) (Int.le_refl _) (Int.le_refl _)) (by unfold CF; omega)) (by unfold CF; omega)) (fun c y p1 p2 p3 p4 => ?_)
  by_cases hc : c = 44
  · rw [u2_idx (by omega), u2_bank (by omega)]
    exact fW1 c y (by unfold CF; omega)
  · rw [ob c y (by omega) hc]
    exact fW1 c y (by unfold CF; omega)
theorem TT_mulL (g : Int) {u : qT} (hu : TT u) : TT (.mulL g u) := by
  intro m h0 d Q x a t ctx B hm hn hw hN hM hX t0 h60 h61 ha ht hs hk hL kk
  obtain ⟨n1, n2, n3, n4, n5, n6, n7⟩ := hn
  have hw' : wf u := hw.2.2
  have hth : th (.mulL g u) = 1 + th u := rfl
  have hc : cl (.mulL g u) = cl u + 2 := rfl
  have hcs : cs (.mulL g u) = cs u + (if 1 ≤ g then 0 else 1) := rfl
  have hcm : cm (.mulL g u) = cm u := rfl
  have hsd : sd (.mulL g u) = if 1 ≤ g then sd u else max 0 (sd u) := rfl
  have nu := cl_nn u hw'
  have tu := th_pos u
  have a0 : 0 ≤ a := hX.2.2.2.2.2.1
  have hmk : 0 ≤ B 47 0 := hX.2.2.2.2.2.2.2.2.1
  obtain ⟨hX0, f0⟩ := X_pop hX t0
  have e48 : (u2 B 64 0 t) 48 0 = B 48 0 := u2_bank (by decide)
  have e47 : (u2 B 64 0 t) 47 0 = B 47 0 := u2_bank (by decide)
  by_cases hg : 1 ≤ g
  · rw [if_pos hg] at n3 n5 hcs hsd
    refine D_group hm hX t0 (by omega) (by omega) h60 h61 n1 (by omega) n3 ?_
    rw [n5]
    obtain ⟨x1, x2, x3, x4, x5, x6, x7, x8, x9⟩ := X_em0 (c := 3) (x := 2 * g) (y := 0) hX0 (by decide) (by decide)
    rw [e48, e47] at x2
    rw [e48] at x3
    rw [e47] at x4
    generalize em0 (u2 B 64 0 t) 3 (2 * g) 0 = E at *
    have fE : FrS (CF a t (B 48 0) (B 47 0)) B E := CF_tr (TS_to f0) x2 (Int.le_refl _) (Int.le_refl _) (Int.le_refl _) (Int.le_refl _)
    obtain ⟨y1, y2, y3, y4, -, -⟩ := X_lt (w := 3) (x := 2 * g + 1) (y := 0) (z := 0) x1
    obtain ⟨z1, z2, z3, z4, -, -⟩ := X_lt (w := 0) (x := B 18 x) (y := 0) (z := 0) y1
    generalize ltB E 3 (2 * g + 1) 0 0 = B1 at *
    generalize ltB B1 0 (B 18 x) 0 0 = B2 at *
    have fEB : FrS (TS t) E B2 := FrS.trans y2 z2 (fun b y q => by unfold TS at q ⊢; omega)
    have f2 : FrS (CF a t (B 48 0) (B 47 0)) B B2 := CF_tr fE (TS_to (a := a) (sp := B 48 0) (mk := B 47 0) fEB) (Int.le_refl _) (Int.le_refl _) (Int.le_refl _) (Int.le_refl _)
    have s2 : ∀ b y, b < 60 → B2 b y = E b y := fun b y q => fEB b y (by unfold TS; omega)
    have k48 : B2 48 0 = B 48 0 := (s2 48 0 (by decide)).trans x3
    have k47 : B2 47 0 = B 47 0 := (s2 47 0 (by decide)).trans x4
    have g60 : B2 60 t = 3 := (z2 60 t (by unfold TS; omega)).trans y3
    have g61 : B2 61 t = 2 * g + 1 := (z2 61 t (by unfold TS; omega)).trans y4
    refine hu m h0 d Q (B 18 x) (a + 1) (t + 1) ctx B2 hm (nd_CF f2 n4) hw' (by rw [CF41 f2 (by decide)]; exact hN) (by rw [CF41 f2 (by decide)]; exact hM) z1 (by omega) z3 z4 (by omega) (by omega) (by omega) (by omega) (by omega) (fun B3 q1 q2 q3 q4 q5 => ?_)
    have r60 : B3 60 t = 3 := (q4 60 t (by unfold CF; omega)).trans g60
    have r61 : B3 61 t = 2 * g + 1 := (q4 61 t (by unfold CF; omega)).trans g61
    have r46 : B3 46 0 = a + 1 + cl u := q1.1
    refine C_save hm q1.2.1 t0 (by omega) r60 (by omega) (by omega) ?_
    rw [r61]
    obtain ⟨c1, c2⟩ := X_pop q1 t0
    obtain ⟨w1, w2, w3, w4, w5, w6, w7, w8, w9⟩ := X_em0 (c := 3) (x := 2 * g + 1) (y := 0) c1 (by decide) (by decide)
    have d48 : (u2 B3 64 0 t) 48 0 = B3 48 0 := u2_bank (by decide)
    have d47 : (u2 B3 64 0 t) 47 0 = B3 47 0 := u2_bank (by decide)
    rw [d48, d47] at w2
    rw [d48] at w3
    rw [d47] at w4
    generalize em0 (u2 B3 64 0 t) 3 (2 * g + 1) 0 = W1 at *
    have fW1 : FrS (CF (a + 1 + cl u) t (B3 48 0) (B3 47 0)) B3 W1 := CF_tr (TS_to c2) w2 (Int.le_refl _) (Int.le_refl _) (Int.le_refl _) (Int.le_refl _)
    have f3 : FrS (CF a t (B 48 0) (B 47 0)) B B3 := CF_tr f2 q4 (by omega) (by omega) (by omega) (by omega)
    have sta : ∀ b, 42 ≤ b → b ≤ 45 → W1 b a = E b a := by
      intro b p1 p2
      rw [fW1 b a (by unfold CF; omega), q4 b a (by unfold CF; omega)]
      exact s2 b a (by omega)
    refine kk W1 (by rw [show a + cl (.mulL g u) = a + 1 + cl u + 1 by omega]; exact w1) (by omega) (by omega) (CF_tr f3 fW1 (by omega) (Int.le_refl _) (by omega) (by omega)) ?_
    show (if 1 ≤ g then _ else _)
    rw [if_pos hg]
    refine ⟨(sta 42 (by decide) (by decide)).trans x5, (sta 43 (by decide) (by decide)).trans x6, Seg_CF (t := 0) fW1 hw' (Int.le_refl _) (by omega) (by omega) q5, ?_, ?_⟩
    · rw [show a + cl u + 1 = a + 1 + cl u by omega]; exact w5
    · rw [show a + cl u + 1 = a + 1 + cl u by omega]; exact w6
  · rw [if_neg hg] at n3 n5 hcs hsd
    have h17 : (B 17 x = 5 ∧ (if g = 0 then (1 : Int) else 2) = 1) ∨ (B 17 x = 6 ∧ (if g = 0 then (1 : Int) else 2) = 2) ∨ (B 17 x = 3 ∧ B 22 x = 2 ∧ (if g = 0 then (1 : Int) else 2) = 0) := by
      by_cases h0 : g = 0
      · rw [if_pos h0] at n3 ⊢; exact Or.inl ⟨n3, rfl⟩
      · rw [if_neg h0] at n3 ⊢; exact Or.inr (Or.inl ⟨n3, rfl⟩)
    have h173 : ¬ B 17 x = 3 := by
      by_cases h0 : g = 0
      · rw [if_pos h0] at n3; omega
      · rw [if_neg h0] at n3; omega
    refine D_sub hm (kd := if g = 0 then 1 else 2) hX t0 (by omega) (by omega) (by omega) h60 h61 n1 (by omega) h17 ?_
    rw [if_neg h173, if_neg h173]
    obtain ⟨x1, x2, x3, x4, x5, x6, x7, x8, x9⟩ := X_em1 (c := 6) (x := if g = 0 then 1 else 2) (y := 0) hX0 (Or.inr rfl) (by omega)
    rw [e48, e47] at x2
    rw [e48] at x3 x8
    rw [e47] at x4
    generalize u2 (em1 (u2 B 64 0 t) 6 (if g = 0 then 1 else 2) 0 ctx.length) 46 0 (a + 1) = E at *
    have fE : FrS (CF a t (B 48 0) (B 47 0)) B E := CF_tr (TS_to f0) x2 (Int.le_refl _) (Int.le_refl _) (Int.le_refl _) (Int.le_refl _)
    obtain ⟨y1, y2, y3, y4, y5, -⟩ := X_lt (w := 4) (x := a) (y := ctxH ctx) (z := 0) x1
    generalize ltB E 4 a (ctxH ctx) 0 = B1 at *
    -- no rounds around within
    have pX : CX (u2 B1 55 0 (-1)) [] (a + 1) (t + 1) := by
      obtain ⟨i1, i2, i3, i4, i5, i6, i7, i8, i9, i10⟩ := y1
      exact ⟨by rw [u2_bank (by decide)]; exact i1, by rw [u2_bank (by decide)]; exact i2, u2_same, trivial, fun q hq => by simp at hq, i6, i7, by rw [u2_bank (by decide)]; exact i8, by rw [u2_bank (by decide)]; exact i9, GI_eq i10 (fun b y q => u2_bank (by omega))⟩
    have chB : CH B1 ctx ∧ (∀ q ∈ ctx, q < B1 47 0) := ⟨y1.2.2.2.1, y1.2.2.2.2.1⟩
    have sP : ∀ b y, b ≠ 55 → (u2 B1 55 0 (-1)) b y = B1 b y := fun b y q => u2_bank q
    have fP : FrS (CF a t (B 48 0) (B 47 0)) B (u2 B1 55 0 (-1)) := FrS.u2 (CF_tr fE (TS_to (a := a) (sp := B 48 0) (mk := B 47 0) y2) (Int.le_refl _) (Int.le_refl _) (Int.le_refl _) (Int.le_refl _)) (by unfold CF; omega)
    generalize u2 B1 55 0 (-1) = P at *
    obtain ⟨z1, z2, z3, z4, -, -⟩ := X_lt (w := 0) (x := B 18 x) (y := 0) (z := 0) pX
    generalize ltB P 0 (B 18 x) 0 0 = B2 at *
    have f2 : FrS (CF a t (B 48 0) (B 47 0)) B B2 := CF_tr fP (TS_to (a := a) (sp := B 48 0) (mk := B 47 0) z2) (Int.le_refl _) (by omega) (Int.le_refl _) (Int.le_refl _)
    have s2 : ∀ b y, b < 60 → b ≠ 55 → B2 b y = E b y := by
      intro b y q q2
      rw [z2 b y (by unfold TS; omega), sP b y q2]
      exact y2 b y (by unfold TS; omega)
    have k48 : B2 48 0 = B 48 0 + 1 := (s2 48 0 (by decide) (by decide)).trans x3
    have k47 : B2 47 0 = B 47 0 := (s2 47 0 (by decide) (by decide)).trans x4
    have g60 : B2 60 t = 4 := by rw [z2 60 t (by unfold TS; omega), sP 60 t (by decide)]; exact y3
    have g61 : B2 61 t = a := by rw [z2 61 t (by unfold TS; omega), sP 61 t (by decide)]; exact y4
    have g62 : B2 62 t = ctxH ctx := by rw [z2 62 t (by unfold TS; omega), sP 62 t (by decide)]; exact y5
    have hch2 : CH B2 ctx := CH_eq ctx (fun q _ => by rw [z2 53 q (by unfold TS; omega), sP 53 q (by decide)]) chB.1
    have hlt2 : ∀ q ∈ ctx, q < B 47 0 := fun q hq => by
      have := chB.2 q hq
      rw [y2 47 0 (by unfold TS; omega), x4] at this
      exact this
    refine hu m h0 d Q (B 18 x) (a + 1) (t + 1) [] B2 hm (nd_CF f2 n4) hw' (by rw [CF41 f2 (by decide)]; exact hN) (by rw [CF41 f2 (by decide)]; exact hM) z1 (by omega) z3 z4 (by omega) (by omega) (by omega) (by omega) (by simp only [List.length_nil]; omega) (fun B3 q1 q2 q3 q4 q5 => ?_)
    have r60 : B3 60 t = 4 := (q4 60 t (by unfold CF; omega)).trans g60
    have r61 : B3 61 t = a := (q4 61 t (by unfold CF; omega)).trans g61
    have r62 : B3 62 t = ctxH ctx := (q4 62 t (by unfold CF; omega)).trans g62
    have f3 : FrS (CF a t (B 48 0) (B 47 0)) B B3 := CF_tr f2 q4 (by omega) (by omega) (by omega) (by omega)
    refine sub_end hm (ctx := ctx) (a := a) (b := a + 1 + cl u) q1 t0 (by omega) r60 r61 r62 a0 (by omega) (by omega) (CH_eq ctx (fun q hq => q4 53 q (by unfold CF; have := hlt2 q hq; omega)) hch2) (fun q hq => by have := hlt2 q hq; omega) (fun B6 k1 k2 k3 k4 k5 k6 k7 => ?_)
    have sta : ∀ b, 42 ≤ b → b ≤ 45 → b ≠ 44 → B6 b a = E b a := by
      intro b p1 p2 p3
      rw [k7 b a p1 p2 (by omega) (by omega), q4 b a (by unfold CF; omega)]
      exact s2 b a (by omega) (by omega)
    refine kk B6 (by rw [show a + cl (.mulL g u) = a + 1 + cl u + 1 by omega]; exact k1) (by omega) (by omega) (CF_tr f3 k6 (Int.le_refl _) (Int.le_refl _) (by omega) (by omega)) ?_
    show (if 1 ≤ g then _ else _)
    rw [if_neg hg]
    refine ⟨(sta 42 (by decide) (by decide) (by decide)).trans x5, (sta 43 (by decide) (by decide) (by decide)).trans x6, by rw [k5]; omega, ?_, ?_, ?_⟩
    · refine SpA_fr (S := B 48 0 + 1) (sta 45 (by decide) (by decide) (by decide)) (fun y _ y1 => ?_) (fun y _ y1 => ?_) (by omega) x8
      · rw [k6 52 y (by unfold CF; omega), q4 52 y (by unfold CF; omega)]; exact s2 52 y (by decide) (by decide)
      · rw [k6 54 y (by unfold CF; omega), q4 54 y (by unfold CF; omega)]; exact s2 54 y (by decide) (by decide)
    · exact Seg_st (t := t) (CF_mono k6 (by omega) (Int.le_refl _) (Int.le_refl _) (Int.le_refl _)) hw' (fun b y p1 p2 p3 p4 => k7 b y p1 p2 (by omega) (by omega)) (by omega) (by omega) q5
    · rw [show a + cl u + 1 = a + 1 + cl u by omega]; exact k4
