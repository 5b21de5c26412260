/-! THE REFERENCE'S COMPILER: ways, groups, lookaheads -/
theorem Seg_st {B B' : qB} {t a J J' : Int} {e : qT} {ctx : List Int} (h : FrS (CF 0 t (B 48 0) (B 47 0)) B B') (hw : wf e) (hcd : ∀ b y, 42 ≤ b → b ≤ 45 → a ≤ y → y < a + cl e → B' b y = B b y) (hs : B 48 0 ≤ B' 48 0) (hk : B 47 0 ≤ B' 47 0) (hS : Seg B (B 48 0) (B 47 0) e a ctx J) (hJ : J = J' := by omega) : Seg B' (B' 48 0) (B' 47 0) e a ctx J' :=
  Seg_J (J := J) (
  Seg_fr (fun y y0 y1 => h 52 y (by unfold CF; omega)) (fun y y0 y1 => h 54 y (by unfold CF; omega)) (fun y y0 y1 => h 53 y (by unfold CF; omega)) (fun y => CF41 h (by decide)) hs hk e a ctx J hw hcd hS) hJ
theorem TT_sub {u v : qT} (hu : TT u) (hv : TT v) : TT (.sub u v) := by
  intro m h0 d Q x a t ctx B hm hn hw hN hM hX t0 h60 h61 ha ht hs hk hL kk
  obtain ⟨n1, n2, n3, n4, n5, n6, n7⟩ := hn
  have hth : th (.sub u v) = 1 + max (th u) (th v) := rfl
  have hc : cl (.sub u v) = cl u + cl v + 2 := rfl
  have hcs : cs (.sub u v) = cs u + cs v + 1 := rfl
  have hcm : cm (.sub u v) = cm u + cm v := rfl
  have hsd : sd (.sub u v) = max 0 (max (sd u) (sd v)) := rfl
  have nu := cl_nn u hw.1
  have nv := cl_nn v hw.2
  have tu := th_pos u
  have a0 : 0 ≤ a := hX.2.2.2.2.2.1
  have hmk : 0 ≤ B 47 0 := hX.2.2.2.2.2.2.2.2.1
  obtain ⟨hX0, f0⟩ := X_pop hX t0
  have e48 : (u2 B 64 0 t) 48 0 = B 48 0 := u2_bank (by decide)
  have e47 : (u2 B 64 0 t) 47 0 = B 47 0 := u2_bank (by decide)
  refine D_alt hm hX t0 (by omega) (by omega) (by omega) h60 h61 n1 (by omega) n3 ?_
  obtain ⟨x1, x2, x3, x4, x5, x6, x7, x8, x9⟩ := X_em1 (c := 1) (x := 0) (y := 0) hX0 (Or.inl rfl) (by omega)
  rw [e48, e47] at x2
  rw [e48] at x3 x8
  rw [e47] at x4
  generalize u2 (em1 (u2 B 64 0 t) 1 0 0 ctx.length) 46 0 (a + 1) = E at *
  have fE : FrS (CF a t (B 48 0) (B 47 0)) B E := CF_tr (TS_to f0) x2 (Int.le_refl _) (Int.le_refl _) (Int.le_refl _) (Int.le_refl _)
  have pX : CX (u2 E 43 a (a + 1)) ctx (a + 1) t := CX_eq x1 (by rw [u2_bank (by decide)]; exact x1.2.1) t0 (fun b y q => u2_bank (by omega))
  have fP : FrS (CF a t (B 48 0) (B 47 0)) B (u2 E 43 a (a + 1)) := FrS.u2 fE (by unfold CF; omega)
  have p43 : (u2 E 43 a (a + 1)) 43 a = a + 1 := u2_same
  have p42 : (u2 E 43 a (a + 1)) 42 a = 1 := by rw [u2_bank (by decide)]; exact x5
  have p48 : (u2 E 43 a (a + 1)) 48 0 = B 48 0 + 1 := by rw [u2_bank (by decide)]; exact x3
  have p47 : (u2 E 43 a (a + 1)) 47 0 = B 47 0 := by rw [u2_bank (by decide)]; exact x4
  have pS : SpA (u2 E 43 a (a + 1)) (B 48 0 + 1) a ctx := SpA_fr (u2_bank (by decide)) (fun y _ _ => u2_bank (by decide)) (fun y _ _ => u2_bank (by decide)) (Int.le_refl _) x8
  generalize u2 E 43 a (a + 1) = P at *
  obtain ⟨y1, y2, y3, y4, y5, -⟩ := X_lt (w := 1) (x := a) (y := B 19 x) (z := 0) pX
  obtain ⟨z1, z2, z3, z4, -, -⟩ := X_lt (w := 0) (x := B 18 x) (y := 0) (z := 0) y1
  generalize ltB P 1 a (B 19 x) 0 = B1 at *
  generalize ltB B1 0 (B 18 x) 0 0 = B2 at *
  have fPB : FrS (TS t) P B2 := FrS.trans y2 z2 (fun b y q => by unfold TS at q ⊢; omega)
  have f2 : FrS (CF a t (B 48 0) (B 47 0)) B B2 := CF_tr fP (TS_to (a := a) (sp := B 48 0) (mk := B 47 0) fPB) (Int.le_refl _) (Int.le_refl _) (Int.le_refl _) (Int.le_refl _)
  have s2 : ∀ b y, b < 60 → B2 b y = P b y := fun b y q => fPB b y (by unfold TS; omega)
  have k48 : B2 48 0 = B 48 0 + 1 := (s2 48 0 (by decide)).trans p48
  have k47 : B2 47 0 = B 47 0 := (s2 47 0 (by decide)).trans p47
  have g60 : B2 60 t = 1 := (z2 60 t (by unfold TS; omega)).trans y3
  have g61 : B2 61 t = a := (z2 61 t (by unfold TS; omega)).trans y4
  have g62 : B2 62 t = B 19 x := (z2 62 t (by unfold TS; omega)).trans y5
  refine hu m h0 d Q (B 18 x) (a + 1) (t + 1) ctx B2 hm (nd_CF f2 n4) hw.1 (by rw [CF41 f2 (by decide)]; exact hN) (by rw [CF41 f2 (by decide)]; exact hM) z1 (by omega) z3 z4 (by omega) (by omega) (by omega) (by omega) (by omega) (fun B3 q1 q2 q3 q4 q5 => ?_)
  have r60 : B3 60 t = 1 := (q4 60 t (by unfold CF; omega)).trans g60
  have r61 : B3 61 t = a := (q4 61 t (by unfold CF; omega)).trans g61
  have r62 : B3 62 t = B 19 x := (q4 62 t (by unfold CF; omega)).trans g62
  have r46 : B3 46 0 = a + 1 + cl u := q1.1
  refine C_other hm q1.2.1 t0 (by omega) r60 (by omega) (by omega) (by omega) (by omega) (by omega) ?_
  rw [r61, r62, r46]
  obtain ⟨c1, c2⟩ := X_pop q1 t0
  obtain ⟨w1, w2, w3, w4, w5, w6, w7, w8, w9⟩ := X_em0 (c := 2) (x := 0) (y := 0) c1 (by decide) (by decide)
  have d48 : (u2 B3 64 0 t) 48 0 = B3 48 0 := u2_bank (by decide)
  have d47 : (u2 B3 64 0 t) 47 0 = B3 47 0 := u2_bank (by decide)
  rw [d48, d47] at w2
  rw [d48] at w3
  rw [d47] at w4
  generalize em0 (u2 B3 64 0 t) 2 0 0 = W1 at *
  have fW1 : FrS (CF (a + 1 + cl u) t (B3 48 0) (B3 47 0)) B3 W1 := CF_tr (TS_to c2) w2 (Int.le_refl _) (Int.le_refl _) (Int.le_refl _) (Int.le_refl _)
  have vX : CX (u2 W1 44 a (a + 1 + cl u + 1)) ctx (a + 1 + cl u + 1) t := CX_eq w1 (by rw [u2_bank (by decide)]; exact w1.2.1) t0 (fun b y q => u2_bank (by omega))
  have fW2 : FrS (CF a t (B3 48 0) (B3 47 0)) B3 (u2 W1 44 a (a + 1 + cl u + 1)) := FrS.u2 (CF_mono fW1 (by omega) (Int.le_refl _) (Int.le_refl _) (Int.le_refl _)) (by unfold CF; omega)
  have cW2 : ∀ b y, 42 ≤ b → b ≤ 45 → y < a + 1 + cl u → ¬ (b = 44 ∧ y = a) → (u2 W1 44 a (a + 1 + cl u + 1)) b y = B3 b y := by
    intro b y b1 b2 y1 ne
    by_cases hb : b = 44
    · rw [u2_idx (by omega)]; exact fW1 b y (by unfold CF; omega)
    · rw [u2_bank hb]; exact fW1 b y (by unfold CF; omega)
  have v44 : (u2 W1 44 a (a + 1 + cl u + 1)) 44 a = a + 1 + cl u + 1 := u2_same
  have v42 : (u2 W1 44 a (a + 1 + cl u + 1)) 42 (a + 1 + cl u) = 2 := by rw [u2_bank (by decide)]; exact w5
  have v48 : (u2 W1 44 a (a + 1 + cl u + 1)) 48 0 = B3 48 0 := by rw [u2_bank (by decide)]; exact w3
  have v47 : (u2 W1 44 a (a + 1 + cl u + 1)) 47 0 = B3 47 0 := by rw [u2_bank (by decide)]; exact w4
  generalize u2 W1 44 a (a + 1 + cl u + 1) = W2 at *
  obtain ⟨l1, l2, l3, l4, -, -⟩ := X_lt (w := 2) (x := a + 1 + cl u) (y := 0) (z := 0) vX
  obtain ⟨j1, j2, j3, j4, -, -⟩ := X_lt (w := 0) (x := B 19 x) (y := 0) (z := 0) l1
  generalize ltB W2 2 (a + 1 + cl u) 0 0 = W3 at *
  generalize ltB W3 0 (B 19 x) 0 0 = W4 at *
  have fW4 : FrS (TS t) W2 W4 := FrS.trans l2 j2 (fun b y q => by unfold TS at q ⊢; omega)
  have sW : ∀ b y, b < 60 → W4 b y = W2 b y := fun b y q => fW4 b y (by unfold TS; omega)
  have o48 : W4 48 0 = B3 48 0 := (sW 48 0 (by decide)).trans v48
  have o47 : W4 47 0 = B3 47 0 := (sW 47 0 (by decide)).trans v47
  have h60' : W4 60 t = 2 := (j2 60 t (by unfold TS; omega)).trans l3
  have h61' : W4 61 t = a + 1 + cl u := (j2 61 t (by unfold TS; omega)).trans l4
  have f34 : FrS (CF a t (B3 48 0) (B3 47 0)) B3 W4 := CF_tr fW2 (TS_to (a := a) (sp := B3 48 0) (mk := B3 47 0) fW4) (Int.le_refl _) (Int.le_refl _) (Int.le_refl _) (Int.le_refl _)
  have f04 : FrS (CF a t (B 48 0) (B 47 0)) B W4 := CF_tr (CF_tr f2 q4 (by omega) (by omega) (by omega) (by omega)) f34 (Int.le_refl _) (Int.le_refl _) (by omega) (by omega)
  refine hv m h0 d Q (B 19 x) (a + 1 + cl u + 1) (t + 1) ctx W4 hm (nd_CF f04 n5) hw.2 (by rw [CF41 f04 (by decide)]; exact hN) (by rw [CF41 f04 (by decide)]; exact hM) j1 (by omega) j3 j4 (by omega) (by omega) (by omega) (by omega) (by omega) (fun B5 k1 k2 k3 k4 k5 => ?_)
  have t61 : B5 61 t = a + 1 + cl u := (k4 61 t (by unfold CF; omega)).trans h61'
  have t46 : B5 46 0 = a + 1 + cl u + 1 + cl v := k1.1
  refine C_jump hm k1.2.1 t0 (by omega) ((k4 60 t (by unfold CF; omega)).trans h60') (by omega) (by omega) ?_
  rw [t61, t46]
  obtain ⟨b1, b2⟩ := X_pop k1 t0
  have bX : CX (u2 (u2 B5 64 0 t) 43 (a + 1 + cl u) (a + 1 + cl u + 1 + cl v)) ctx (a + 1 + cl u + 1 + cl v) t := CX_eq b1 (by rw [u2_bank (by decide)]; exact b1.2.1) t0 (fun b y q => u2_bank (by omega))
  have s6 : ∀ b y, b < 60 → ¬ (b = 43 ∧ y = a + 1 + cl u) → (u2 (u2 B5 64 0 t) 43 (a + 1 + cl u) (a + 1 + cl u + 1 + cl v)) b y = B5 b y := by
    intro b y q ne
    have : (u2 (u2 B5 64 0 t) 43 (a + 1 + cl u) (a + 1 + cl u + 1 + cl v)) b y = (u2 B5 64 0 t) b y := if_neg ne
    rw [this, u2_bank (by omega)]
  have v43 : (u2 (u2 B5 64 0 t) 43 (a + 1 + cl u) (a + 1 + cl u + 1 + cl v)) 43 (a + 1 + cl u) = a + 1 + cl u + 1 + cl v := u2_same
  have s6t : ∀ y, y < t → ∀ b, 60 ≤ b → b ≤ 63 → (u2 (u2 B5 64 0 t) 43 (a + 1 + cl u) (a + 1 + cl u + 1 + cl v)) b y = B5 b y := by
    intro y hy b q1 q2
    rw [u2_bank (by omega), u2_bank (by omega)]
  have s65 : ∀ b y, 65 ≤ b → (u2 (u2 B5 64 0 t) 43 (a + 1 + cl u) (a + 1 + cl u + 1 + cl v)) b y = B5 b y := by
    intro b y q1
    rw [u2_bank (by omega), u2_bank (by omega)]
  generalize u2 (u2 B5 64 0 t) 43 (a + 1 + cl u) (a + 1 + cl u + 1 + cl v) = B6 at *
  have f56 : FrS (CF (a + 1 + cl u) t (B5 48 0) (B5 47 0)) B5 B6 := by
    intro b y q
    unfold CF at q
    by_cases hb : b < 60
    · exact s6 b y hb (by omega)
    · by_cases hb2 : b ≤ 63
      · exact s6t y (by omega) b (by omega) hb2
      · exact s65 b y (by omega)
  have u48 : B6 48 0 = B5 48 0 := s6 48 0 (by decide) (fun q => absurd q.1 (by decide))
  have u47 : B6 47 0 = B5 47 0 := s6 47 0 (by decide) (fun q => absurd q.1 (by decide))
  have f46' : FrS (CF a t (B3 48 0) (B3 47 0)) B3 B6 := CF_tr (CF_tr f34 k4 (by omega) (by omega) (by omega) (by omega)) f56 (by omega) (Int.le_refl _) (by omega) (by omega)
  have f26 : FrS (CF a t (B 48 0 + 1) (B 47 0)) B2 B6 := CF_tr (CF_mono q4 (by omega) (by omega) (by omega) (by omega)) f46' (Int.le_refl _) (Int.le_refl _) (by omega) (by omega)
  -- code below the jump, but for y[a]
  have st : ∀ b y, 42 ≤ b → b ≤ 45 → y < a + 1 + cl u → ¬ (b = 44 ∧ y = a) → B6 b y = B3 b y := by
    intro b y p1 p2 p3 p4
    rw [s6 b y (by omega) (by omega), k4 b y (by unfold CF; omega), sW b y (by omega)]
    exact cW2 b y p1 p2 p3 p4
  have sta : ∀ b, 42 ≤ b → b ≤ 45 → b ≠ 44 → B6 b a = P b a := by
    intro b p1 p2 p3
    rw [st b a p1 p2 (by omega) (by omega), q4 b a (by unfold CF; omega)]
    exact s2 b a (by omega)
  refine kk B6 (by rw [show a + cl (u.sub v) = a + 1 + cl u + 1 + cl v by omega]; exact bX) (by omega) (by omega) (CF_tr f2 f26 (Int.le_refl _) (Int.le_refl _) (by omega) (Int.le_refl _)) ⟨?_, ?_, ?_, ?_, ?_, ?_, ?_, ?_⟩
  · rw [sta 42 (by decide) (by decide) (by decide)]; exact p42
  · rw [sta 43 (by decide) (by decide) (by decide)]; exact p43
  · rw [s6 44 a (by decide) (by omega), k4 44 a (by unfold CF; omega), sW 44 a (by decide), v44]; omega
  · refine SpA_fr (S := B 48 0 + 1) (sta 45 (by decide) (by decide) (by decide)) (fun y _ y1 => ?_) (fun y _ y1 => ?_) (by omega) pS
    · rw [f26 52 y (by unfold CF; omega)]; exact s2 52 y (by decide)
    · rw [f26 54 y (by unfold CF; omega)]; exact s2 54 y (by decide)
  · exact Seg_st (t := t) (CF_mono f46' (by omega) (Int.le_refl _) (Int.le_refl _) (Int.le_refl _)) hw.1 (fun b y p1 p2 p3 p4 => st b y p1 p2 (by omega) (by omega)) (by omega) (by omega) q5
  · rw [show a + cl u + 1 = a + 1 + cl u by omega, s6 42 _ (by decide) (by omega), k4 42 _ (by unfold CF; omega), sW 42 _ (by decide)]; exact v42
  · rw [show a + cl u + 1 = a + 1 + cl u by omega, v43]; omega
  · rw [show a + cl u + 2 = a + 1 + cl u + 1 by omega]
    exact Seg_st (t := t) (CF_mono f56 (by omega) (Int.le_refl _) (Int.le_refl _) (Int.le_refl _)) hw.2 (fun b y p1 p2 p3 p4 => s6 b y (by omega) (by omega)) (by omega) (by omega) k5
