/-! THE REFERENCE'S COMPILER: a tree's code is laid -/
def TT (e : qT) : Prop := ∀ (m : Nat) (h0 : qH) (d : Nat) (Q : qO → qB → Prop) (x a t : Int) (ctx : List Int) (B : qB), m + 100 < 1000000000 → nd B (B 28 0) (B 29 0) e x → wf e → B 28 0 ≤ 3000 → B 29 0 ≤ 256 → CX B ctx a (t + 1) → 0 ≤ t → B 60 t = 0 → B 61 t = x → a + cl e ≤ 5980 → t + th e ≤ 5880 → B 48 0 + cs e ≤ 1990 → B 47 0 + cm e ≤ 790 → ctx.length + sd e ≤ 10 →
  (∀ B', CX B' ctx (a + cl e) t → B' 48 0 = B 48 0 + cs e → B' 47 0 = B 47 0 + cm e → FrS (CF a t (B 48 0) (B 47 0)) B B' → Seg B' (B' 48 0) (B' 47 0) e a ctx (B 47 0) → CL m h0 d B' Q) → CL m h0 d B Q
theorem CF41 {a t sp mk : Int} {B B' : qB} (h : FrS (CF a t sp mk) B B') {b : Nat} {y : Int} (hb : b ≤ 41) : B' b y = B b y := h b y (Or.inl hb)
theorem nd_CF {a t sp mk : Int} {B B' : qB} (h : FrS (CF a t sp mk) B B') {e : qT} {x : Int} (hn : nd B (B 28 0) (B 29 0) e x) : nd B' (B' 28 0) (B' 29 0) e x := by
  rw [CF41 h (by decide), CF41 h (by decide)]
  exact nd_fr0 (fun b y q => CF41 h (by unfold NdS at q; omega)) (Int.le_refl _) (Int.le_refl _) _ _ hn
theorem Seg_J {B : qB} {S K a J J' : Int} {e : qT} {ctx : List Int} (h : Seg B S K e a ctx J) (e1 : J = J') : Seg B S K e a ctx J' := e1 ▸ h
theorem Seg_CF {a t a' t' J J' : Int} {B B' : qB} (h : FrS (CF a' t' (B 48 0) (B 47 0)) B B') {e : qT} {ctx : List Int} (hw : wf e) (ha : a + cl e ≤ a') (hs : B 48 0 ≤ B' 48 0) (hk : B 47 0 ≤ B' 47 0) (hS : Seg B (B 48 0) (B 47 0) e a ctx J) (hJ : J = J' := by omega) : Seg B' (B' 48 0) (B' 47 0) e a ctx J' :=
  Seg_J (J := J) (
  Seg_fr (fun y y0 y1 => h 52 y (by unfold CF; omega)) (fun y y0 y1 => h 54 y (by unfold CF; omega)) (fun y y0 y1 => h 53 y (by unfold CF; omega)) (fun y => CF41 h (by decide)) hs hk e a ctx J hw (fun b y b1 b2 y1 y2 => h b y (by unfold CF; omega)) hS) hJ
theorem TS_to {a t sp mk : Int} {B B' : qB} (h : FrS (TS t) B B') : FrS (CF a t sp mk) B B' := h.sub TS_CF
theorem th_pos : ∀ e : qT, 1 ≤ th e := by
  intro e
  induction e with
  | num k => exact Int.le_refl _
  | var k => exact Int.le_refl _
  | add a b h1 h2 => unfold th; omega
  | sub a b h1 h2 => unfold th; omega
  | neg a h => unfold th; omega
  | mulL k a h => unfold th; omega
  | mulR a k h => unfold th; omega
theorem TT_num (k : Int) : TT (.num k) := by
  intro m h0 d Q x a t ctx B hm hn hw hN hM hX t0 h60 h61 ha ht hs hk hL kk
  obtain ⟨n1, n2, n3, n4, n5⟩ := hn
  have hth : th (.num k) = 1 := rfl
  obtain ⟨hX0, f0⟩ := X_pop hX t0
  by_cases hk0 : k = 0
  · subst hk0
    rw [if_pos rfl] at n3
    refine D_empty hm hX t0 (by omega) h60 h61 n1 (by omega) n3 ?_
    have hc : cl (.num 0) = 0 := rfl
    refine kk _ (by rw [hc, Int.add_zero]; exact hX0) ?_ ?_ (TS_to f0) (Or.inl rfl)
    · show _ = B 48 0 + 0; rw [u2_bank (by decide)]; omega
    · show _ = B 47 0 + 0; rw [u2_bank (by decide)]; omega
  · rw [if_neg hk0] at n3
    have hc : cl (.num k) = 1 := by unfold cl; rw [if_neg hk0]
    refine D_assert hm hX t0 (by omega) (by omega) h60 h61 n1 (by omega) (by have := hw.1; omega) hw.2 n3 ?_
    obtain ⟨x1, x2, x3, x4, x5, x6, x7, x8, x9⟩ := X_em0 (c := 6 + k) (x := 0) (y := 0) hX0 (by have := hw.1; omega) (by omega)
    have e48 : (u2 B 64 0 t) 48 0 = B 48 0 := u2_bank (by decide)
    have e47 : (u2 B 64 0 t) 47 0 = B 47 0 := u2_bank (by decide)
    refine kk _ (by rw [hc]; exact x1) (by rw [x3, e48]; show _ = B 48 0 + 0; omega) (by rw [x4, e47]; show _ = B 47 0 + 0; omega) ?_ (Or.inr x5)
    rw [e48, e47] at x2
    exact CF_tr (TS_to f0) x2 (Int.le_refl _) (Int.le_refl _) (Int.le_refl _) (Int.le_refl _)
theorem TT_var (s : Nat) : TT (.var s) := by
  intro m h0 d Q x a t ctx B hm hn hw hN hM hX t0 h60 h61 ha ht hs hk hL kk
  obtain ⟨n1, n2, n3, n4, n5, n6, n7, n8⟩ := hn
  have hth : th (.var s) = 1 := rfl
  have hc : cl (.var s) = 1 := rfl
  obtain ⟨hX0, f0⟩ := X_pop hX t0
  refine D_byte hm hX t0 (by omega) (by omega) h60 h61 n1 (by omega) n3 ?_
  obtain ⟨x1, x2, x3, x4, x5, x6, x7, x8, x9⟩ := X_em0 (c := 0) (x := B 23 x) (y := 0) hX0 (by decide) (by decide)
  have e48 : (u2 B 64 0 t) 48 0 = B 48 0 := u2_bank (by decide)
  have e47 : (u2 B 64 0 t) 47 0 = B 47 0 := u2_bank (by decide)
  have fr : FrS (CF a t (B 48 0) (B 47 0)) B (em0 (u2 B 64 0 t) 0 (B 23 x) 0) := by
    rw [e48, e47] at x2
    exact CF_tr (TS_to f0) x2 (Int.le_refl _) (Int.le_refl _) (Int.le_refl _) (Int.le_refl _)
  refine kk _ (by rw [hc]; exact x1) (by rw [x3, e48]; show _ = B 48 0 + 0; omega) (by rw [x4, e47]; show _ = B 47 0 + 0; omega) fr ⟨x5, by rw [x6]; exact n4, by rw [x6]; omega, fun c c1 c2 => ?_⟩
  rw [x6, ← n6 c c1 c2]
  unfold hasB
  rw [CF41 fr (by decide)]
theorem TT_add {u v : qT} (hu : TT u) (hv : TT v) : TT (.add u v) := by
  intro m h0 d Q x a t ctx B hm hn hw hN hM hX t0 h60 h61 ha ht hs hk hL kk
  obtain ⟨n1, n2, n3, n4, n5, n6, n7⟩ := hn
  have hth : th (.add u v) = 1 + max (th u) (th v) := rfl
  have hc : cl (.add u v) = cl u + cl v := rfl
  have hcs : cs (.add u v) = cs u + cs v := rfl
  have hcm : cm (.add u v) = cm u + cm v := rfl
  have hsd : sd (.add u v) = max (sd u) (sd v) := rfl
  have nu := cl_nn u hw.1
  have nv := cl_nn v hw.2
  obtain ⟨hX0, f0⟩ := X_pop hX t0
  refine D_seq hm hX t0 (by have := th_pos u; omega) h60 h61 n1 (by omega) n3 ?_
  obtain ⟨y1, y2, y3, y4, -, -⟩ := X_lt (w := 0) (x := B 19 x) (y := 0) (z := 0) hX0
  obtain ⟨z1, z2, z3, z4, -, -⟩ := X_lt (w := 0) (x := B 18 x) (y := 0) (z := 0) y1
  generalize ltB (u2 B 64 0 t) 0 (B 19 x) 0 0 = B1 at *
  generalize ltB B1 0 (B 18 x) 0 0 = B2 at *
  have f2 : FrS (TS t) B B2 := FrS.trans (FrS.tr f0 y2) z2 (fun b y q => by unfold TS at q ⊢; omega)
  have e48 : B2 48 0 = B 48 0 := f2 48 0 (by unfold TS; omega)
  have e47 : B2 47 0 = B 47 0 := f2 47 0 (by unfold TS; omega)
  have e28 : B2 28 0 = B 28 0 := f2 28 0 (by unfold TS; omega)
  have e29 : B2 29 0 = B 29 0 := f2 29 0 (by unfold TS; omega)
  have g60 : B2 60 t = 0 := (z2 60 t (by unfold TS; omega)).trans y3
  have g61 : B2 61 t = B 19 x := (z2 61 t (by unfold TS; omega)).trans y4
  refine hu m h0 d Q (B 18 x) a (t + 1) ctx B2 hm (nd_CF (a := a) (t := t) (sp := 0) (mk := 0) (TS_to f2) n4) hw.1 (by omega) (by omega) z1 (by omega) z3 z4 (by omega) (by omega) (by omega) (by omega) (by omega) (fun B3 q1 q2 q3 q4 q5 => ?_)
  have fr3 : FrS (CF a t (B 48 0) (B 47 0)) B B3 := CF_tr (TS_to f2) q4 (Int.le_refl _) (by omega) (by omega) (by omega)
  refine hv m h0 d Q (B 19 x) (a + cl u) t ctx B3 hm (nd_CF fr3 n5) hw.2 (by rw [CF41 fr3 (by decide)]; exact hN) (by rw [CF41 fr3 (by decide)]; exact hM) q1 t0 ((q4 60 t (by unfold CF; omega)).trans g60) ((q4 61 t (by unfold CF; omega)).trans g61) (by omega) (by omega) (by omega) (by omega) (by omega) (fun B4 w1 w2 w3 w4 w5 => ?_)
  exact kk B4 (by rw [hc, ← Int.add_assoc]; exact w1) (by omega) (by omega) (CF_tr fr3 w4 (by omega) (Int.le_refl _) (by omega) (by omega)) ⟨Seg_CF (t := 0) w4 hw.1 (Int.le_refl _) (by omega) (by omega) q5, Seg_J w5 (by omega)⟩
theorem TT_neg {u : qT} (hu : TT u) : TT (.neg u) := by
  intro m h0 d Q x a t ctx B hm hn hw hN hM hX t0 h60 h61 ha ht hs hk hL kk
  obtain ⟨n1, n2, n3, n4, n5, n6, n7, n8, n9⟩ := hn
  have hth : th (.neg u) = 2 + th u := rfl
  have hc : cl (.neg u) = cl u := rfl
  have hcs : cs (.neg u) = cs u := rfl
  have hcm : cm (.neg u) = cm u := rfl
  have hsd : sd (.neg u) = sd u := rfl
  have hw' : wf u := hw
  obtain ⟨hX0, f0⟩ := X_pop hX t0
  refine D_seq hm hX t0 (by have := th_pos u; omega) h60 h61 n1 (by omega) n3 ?_
  obtain ⟨y1, y2, y3, y4, -, -⟩ := X_lt (w := 0) (x := B 19 x) (y := 0) (z := 0) hX0
  obtain ⟨z1, z2, z3, z4, -, -⟩ := X_lt (w := 0) (x := B 18 x) (y := 0) (z := 0) y1
  generalize ltB (u2 B 64 0 t) 0 (B 19 x) 0 0 = B1 at *
  generalize ltB B1 0 (B 18 x) 0 0 = B2 at *
  have f2 : FrS (TS t) B B2 := FrS.trans (FrS.tr f0 y2) z2 (fun b y q => by unfold TS at q ⊢; omega)
  have e48 : B2 48 0 = B 48 0 := f2 48 0 (by unfold TS; omega)
  have e47 : B2 47 0 = B 47 0 := f2 47 0 (by unfold TS; omega)
  have e28 : B2 28 0 = B 28 0 := f2 28 0 (by unfold TS; omega)
  have e29 : B2 29 0 = B 29 0 := f2 29 0 (by unfold TS; omega)
  have g60 : B2 60 t = 0 := (z2 60 t (by unfold TS; omega)).trans y3
  have g61 : B2 61 t = B 19 x := (z2 61 t (by unfold TS; omega)).trans y4
  refine hu m h0 d Q (B 18 x) a (t + 1) ctx B2 hm (nd_CF (a := a) (t := t) (sp := 0) (mk := 0) (TS_to f2) n4) hw' (by omega) (by omega) z1 (by omega) z3 z4 (by omega) (by omega) (by omega) (by omega) (by omega) (fun B3 q1 q2 q3 q4 q5 => ?_)
  have fr3 : FrS (CF a t (B 48 0) (B 47 0)) B B3 := CF_tr (TS_to f2) q4 (Int.le_refl _) (by omega) (by omega) (by omega)
  refine D_empty hm q1 t0 (by have := th_pos u; omega) ((q4 60 t (by unfold CF; omega)).trans g60) ((q4 61 t (by unfold CF; omega)).trans g61) n5 (by omega) ((CF41 fr3 (by decide)).trans n7) ?_
  obtain ⟨p1, p2⟩ := X_pop q1 t0
  have h48 : (u2 B3 64 0 t) 48 0 = B3 48 0 := u2_bank (by decide)
  have h47 : (u2 B3 64 0 t) 47 0 = B3 47 0 := u2_bank (by decide)
  refine kk _ (by rw [hc]; exact p1) (by rw [h48]; omega) (by rw [h47]; omega) (FrS.trans fr3 p2 (fun b y q => TS_CF b y q)) ?_
  exact Seg_CF (t := 0) (a' := a + cl u) (t' := t) (TS_to p2) hw' (Int.le_refl _) (by omega) (by omega) q5
