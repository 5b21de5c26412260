/-! THE CLASS'S BUILDER: all trees -/
section BD4
variable {h1 : qH}
theorem P_num {k : Int} : BuPart h1 (.num k) := by
  intro d Q a B I H M N q nx dp lv lvl hd hC hN hs kk
  unfold Nd at hN
  rw [if_pos rfl] at hN
  obtain ⟨k0, hx⟩ := hN
  have x0 := hx.1
  have x1 := hx.2.1
  have hw : 0 ≤ k ∧ k ≤ 4 := hC.2.2.2.2.1
  have hlv := hC.2.2.2.2.2.1
  have hbk : bkd (.num k) = 0 := rfl
  have hst : stc (.num k) = 1 := by unfold stc; rw [if_neg k0]
  have hatm : atm (.num k) = true := rfl
  rw [hatm, if_pos rfl, hbk] at hd
  have hN408 := hC.2.2.1
  obtain ⟨d, rfl⟩ : ∃ d', d = d' + 1 := ⟨d - 1, by omega⟩
  refine c_Bu_buildPart_0_ok (by omega) hC.1.1 ?_
  unfold c_Bu_buildPart_0
  rw [hx.2.2]
  refine ⟨⟨by omega, by omega⟩, fun _ => ⟨by omega, by omega, ⟨by omega, by omega⟩, fun w => absurd w (by omega), fun w => absurd w (by omega), fun w => absurd w (by omega), fun w => absurd w (by omega), fun w => absurd w (by omega), fun _ _ _ _ _ => ?_⟩, fun w => absurd w (by omega)⟩
  refine Q_add (lv := lv) (I := I) hC (by omega) ⟨by omega, by omega⟩ hst rfl (by unfold skd; rw [if_neg (by omega)]) (fun P N e1 e2 e3 e5 e7 hlt => ⟨B a 7, by unfold ent; rw [if_neg (by decide)], ?_⟩) kk
  rw [if_neg k0]
  exact ⟨e1, e3, e5, e7, Int.le_refl _, hlt⟩
theorem P_var {σ : Nat} : BuPart h1 (.var σ) := by
  intro d Q a B I H M N q nx dp lv lvl hd hC hN hs kk
  unfold Nd at hN
  have hlv := hC.2.2.2.2.2.1
  have hbk : bkd (.var σ) = 0 := rfl
  have hst : stc (.var σ) = 1 := rfl
  have hatm : atm (.var σ) = true := rfl
  rw [hatm, if_pos rfl, hbk] at hd
  have hN408 := hC.2.2.1
  have hM := hC.2.2.2.1
  have hk : (B 91 q = 1 ∨ B 91 q = 2) ∧ 1 ≤ q ∧ q < N := by
    rcases hN.2 with w | w
    · exact ⟨Or.inl w.1.2.2, w.1.1, w.1.2.1⟩
    · exact ⟨Or.inr w.1.2.2, w.1.1, w.1.2.1⟩
  obtain ⟨d, rfl⟩ : ∃ d', d = d' + 1 := ⟨d - 1, by omega⟩
  refine c_Bu_buildPart_0_ok (by omega) hC.1.1 ?_
  unfold c_Bu_buildPart_0
  refine ⟨⟨by omega, by omega⟩, fun _ => ⟨by omega, by omega, ⟨by omega, by omega⟩, fun w => absurd w (by omega), fun w => absurd w (by omega), fun w => absurd w (by omega), fun w => absurd w (by omega), fun w => absurd w (by omega), fun _ _ _ _ _ => ?_⟩, fun w => absurd w (by omega)⟩
  refine Q_add (lv := lv) (I := I) hC (by omega) ⟨by omega, by omega⟩ hst rfl (by unfold skd; rw [if_neg (by omega)]) (fun P N e1 e2 e3 e5 e7 hlt => ?_) kk
  rcases hN.2 with w | w
  · exact Or.inl ⟨⟨e1.trans w.1.2.2, e3, e5, e7, Int.le_refl _, hlt⟩, by rw [e2]; exact ⟨w.2.1, w.2.2.1⟩, fun c hc => by rw [e2]; exact w.2.2.2 c hc⟩
  · refine Or.inr ⟨⟨e1.trans w.1.2.2, e3, e5, e7, Int.le_refl _, hlt⟩, by rw [e2]; exact w.2.1, by rw [e2]; have := w.2.2.1; omega, fun c hc => ?_⟩
    rw [e2, w.2.2.2 c hc]
    exact hC.2.1 _ c w.2.1 w.2.2.1 hc
theorem P_neg {x : qT} (hW : BuWys h1 x) : BuPart h1 (.neg x) := by
  intro d Q a B I H M N q nx dp lv lvl hd hC hN hs kk
  obtain ⟨n1, n2, n3, n4⟩ := hN
  have x0 := n2.1
  have x1 := n2.2.1
  have y0 := n3.1
  have y1 := n3.2.1
  have hlv := hC.2.2.2.2.2.1
  have hdp := hC.2.2.2.2.2.2
  have hbk : bkd (.neg x) = bkd x + 1 := rfl
  have hln : ln (.neg x) = ln x + 1 := rfl
  have hatm : atm (.neg x) = true := rfl
  have b0 := bkd_nn x
  rw [hatm, if_pos rfl, hbk] at hd
  rw [hbk] at hlv
  have hN408 := hC.2.2.1
  obtain ⟨d, rfl⟩ : ∃ d', d = d' + 1 := ⟨d - 1, by omega⟩
  refine c_Bu_buildPart_0_ok (by omega) hC.1.1 ?_
  unfold c_Bu_buildPart_0
  rw [n2.2.2]
  refine ⟨⟨by omega, by omega⟩, fun _ => ⟨by omega, by omega, ⟨by decide, by decide⟩, fun w => absurd w (by decide), fun w => absurd w (by decide), fun w => absurd w (by decide), fun _ => ?_, fun w => absurd w (by decide), fun _ _ _ w => absurd rfl w⟩, fun w => absurd w (by omega)⟩
  refine hW d _ a B I H M (B 93 q) (B 93 q) nx dp lv (lvl + 1) (by push_cast at hd; omega) ⟨hC.1, hC.2.1, by omega, hC.2.2.2.1, hC.2.2.2.2.1, ⟨by omega, by omega⟩, hdp.1, by omega⟩ (by omega) (by omega) n4 hs (by omega) (fun B' I' v hE hB' z7 z8 hL => ⟨v, rfl, hB'.1, kk B' I' v hE hB' z7 z8 hL⟩)
theorem P_mulL {x : qT} {k : Int} (hW : BuWys h1 x) : BuPart h1 (.mulL k x) := by
  intro d Q a B I H M N q nx dp lv lvl hd hC hN hs kk
  obtain ⟨n1, n2, n5, n3, n4⟩ := hN
  have x0 := n2.1
  have x1 := n2.2.1
  have y0 := n3.1
  have y1 := n3.2.1
  have hlv := hC.2.2.2.2.2.1
  have hdp := hC.2.2.2.2.2.2
  have hbk : bkd (.mulL k x) = bkd x + 1 := rfl
  have hln : ln (.mulL k x) = ln x + 1 := rfl
  have hatm : atm (.mulL k x) = true := rfl
  have b0 := bkd_nn x
  have hwf : wf x := hC.2.2.2.2.1.2.2
  have sx := stc_nn x hwf
  rw [hatm, if_pos rfl, hbk] at hd
  rw [hbk] at hlv
  have hN408 := hC.2.2.1
  have hpl := pr_lt hC.1.2.1
  have g4 := hC.1.2.2.2.1
  obtain ⟨d, rfl⟩ : ∃ d', d = d' + 2 := ⟨d - 2, by omega⟩
  refine c_Bu_buildPart_0_ok (by omega) hC.1.1 ?_
  unfold c_Bu_buildPart_0
  by_cases hk : 1 ≤ k
  · -- a group
    have hst : stc (.mulL k x) = stc x + 2 := by
      show stc x + (if 1 ≤ k then 2 else 1) = _
      rw [if_pos hk]
    have hsp : spc (.mulL k x) = spc x := by
      show spc x + (if 1 ≤ k then 0 else 1) = _
      rw [if_pos hk]; omega
    rw [if_pos hk] at n2
    rw [n2.2.2]
    refine ⟨⟨by omega, by omega⟩, fun _ => ⟨by omega, by omega, ⟨by decide, by decide⟩, fun w => absurd w (by decide), fun w => absurd w (by decide), fun _ => ?_, fun w => absurd w (by decide), fun w => absurd w (by decide), fun _ _ w => absurd rfl w⟩, fun w => absurd w (by omega)⟩
    refine y_wk (c_Bu_buildGroup_0_ok (by omega) hC.1.1 ?_) ⟨rfl, rfl, rfl, rfl, rfl, trivial⟩
    unfold c_Bu_buildGroup_0
    rw [toN hC.1, n5 hk]
    refine ⟨by omega, by omega, hC.1.2.1, by omega, by omega, ?_⟩
    have hB1 : BSt (paC B a 17 (2 * k + 1) nx dp) a := BSt_add hC.1 (by omega) ⟨by decide, by decide⟩
    have hE1 : BE a B (paC B a 17 (2 * k + 1) nx dp) I (gI I (B a 7) lv) := BE_add (by omega)
    have p1 := pv_add (a := a) (B := B) (k := 17) (v := 2 * k + 1) (n := nx) (e := dp) (I := I) (lv := lv)
    have e7 : paC B a 17 (2 * k + 1) nx dp a 7 = B a 7 + 1 := by rw [paC_a, if_pos rfl]
    have e8 : paC B a 17 (2 * k + 1) nx dp a 8 = B a 8 := by rw [paC_a, if_neg (by decide), if_pos rfl, show skd 17 = 0 from rfl]; omega
    generalize paC B a 17 (2 * k + 1) nx dp = B1 at hB1 hE1 p1 e7 e8
    generalize gI I (B a 7) lv = I1 at hE1 p1
    have o93 : ∀ y, B1 93 y = B 93 y := fun y => hE1.1 93 y (by omega)
    rw [o93]
    have hC1 : BuC a B1 H M (B 93 q) x (lvl + 1) dp := ⟨hB1, HSt_be hC.1.2.1 hE1 hC.2.1, by omega, hC.2.2.2.1, hwf, ⟨by omega, by omega⟩, hdp.1, by omega⟩
    refine hW d _ a B1 I1 H M (B 93 q) (B 93 q) (B a 7) dp lv (lvl + 1) (by push_cast at hd; omega) hC1 (by omega) (by omega) (by rw [o93]; exact Nd_be hC.1.2.1 hE1 n4) (by omega) (by omega) (fun B2 I2 v hE2 hB2 z7 z8 hL2 => ⟨v, rfl, hB2.1, ?_⟩)
    rw [if_neg (by decide)] at z7 z8
    unfold c_Bu_buildGroup_48
    rw [toN hB2]
    refine ⟨hC.1.2.1, by omega, by omega, ?_⟩
    have hB3 : BSt (paC B2 a 17 (2 * k) v dp) a := BSt_add hB2 (by omega) ⟨by decide, by decide⟩
    have hE3 : BE a B2 (paC B2 a 17 (2 * k) v dp) I2 (gI I2 (B2 a 7) lv) := BE_add (by omega)
    have p3 := pv_add (a := a) (B := B2) (k := 17) (v := 2 * k) (n := v) (e := dp) (I := I2) (lv := lv)
    have y7 : paC B2 a 17 (2 * k) v dp a 7 = B2 a 7 + 1 := by rw [paC_a, if_pos rfl]
    have y8 : paC B2 a 17 (2 * k) v dp a 8 = B2 a 8 := by rw [paC_a, if_neg (by decide), if_pos rfl, show skd 17 = 0 from rfl]; omega
    generalize paC B2 a 17 (2 * k) v dp = B3 at hB3 hE3 p3 y7 y8
    generalize gI I2 (B2 a 7) lv = I3 at hE3 p3
    refine ⟨_, rfl, hB3.1, kk B3 I3 (B2 a 7) ((hE1.tr hE2).tr hE3) hB3 (by rw [if_neg (by decide)]; omega) (by rw [if_neg (by decide)]; omega) ?_⟩
    unfold Ly
    rw [if_pos hk]
    have f3 := hE3.pv (N0 := 0) (Int.le_refl _)
    have f2 := hE2.pv (N0 := 0) (Int.le_refl _)
    refine ⟨v, B a 7, ⟨⟨p3.1, p3.2.2.1, p3.2.2.2.2.1, p3.2.2.2.2.2, by omega, by omega⟩, p3.2.1⟩, ?_, ⟨⟨?_, ?_, ?_, ?_, Int.le_refl _, by omega⟩, ?_⟩⟩
    · exact Ly_fr (hE3.pv (by omega)) (by omega) (by omega) _ _ _ _ _ _ _ hL2
    · rw [f3 1 _ (by decide) (by decide) (by omega) (by omega), f2 1 _ (by decide) (by decide) (by omega) (by omega)]; exact p1.1
    · rw [f3 3 _ (by decide) (by decide) (by omega) (by omega), f2 3 _ (by decide) (by decide) (by omega) (by omega)]; exact p1.2.2.1
    · rw [f3 5 _ (by decide) (by decide) (by omega) (by omega), f2 5 _ (by decide) (by decide) (by omega) (by omega)]; exact p1.2.2.2.2.1
    · rw [f3 7 _ (by decide) (by decide) (by omega) (by omega), f2 7 _ (by decide) (by decide) (by omega) (by omega)]; exact p1.2.2.2.2.2
    · rw [f3 2 _ (by decide) (by decide) (by omega) (by omega), f2 2 _ (by decide) (by decide) (by omega) (by omega)]; exact p1.2.1
  · -- a lookahead
    have hst : stc (.mulL k x) = stc x + 1 := by
      show stc x + (if 1 ≤ k then 2 else 1) = _
      rw [if_neg hk]
    have hsp : spc (.mulL k x) = spc x + 1 := by
      show spc x + (if 1 ≤ k then 0 else 1) = _
      rw [if_neg hk]
    rw [if_neg hk] at n2
    have k78 : (if k = 0 then (7 : Int) else 8) = 7 ∨ (if k = 0 then (7 : Int) else 8) = 8 := by split <;> omega
    have sk1 : skd (if k = 0 then (7 : Int) else 8) = 1 := by unfold skd; rw [if_pos (by omega)]
    have n23 := n2.2.2
    have kA : c_Bu_buildPart_95 h1 (d + 1) q nx dp lvl B Q := by
      refine y_wk (c_Bu_buildAhead_0_ok (by omega) hC.1.1 ?_) ⟨rfl, rfl, rfl, rfl, rfl, trivial⟩
      unfold c_Bu_buildAhead_0
      rw [toN hC.1, n23]
      generalize (if k = 0 then (7 : Int) else 8) = kd at k78 sk1 n23
      refine ⟨by omega, by omega, hC.1.2.1, by omega, by omega, ⟨by omega, by omega⟩, ?_⟩
      have hB1 : BSt (paC B a kd 0 nx dp) a := BSt_add hC.1 (by omega) ⟨by omega, by omega⟩
      have hE1 : BE a B (paC B a kd 0 nx dp) I (gI I (B a 7) lv) := BE_add (by omega)
      have p1 := pv_add (a := a) (B := B) (k := kd) (v := 0) (n := nx) (e := dp) (I := I) (lv := lv)
      have e7 : paC B a kd 0 nx dp a 7 = B a 7 + 1 := by rw [paC_a, if_pos rfl]
      have e8 : paC B a kd 0 nx dp a 8 = B a 8 + 1 := by rw [paC_a, if_neg (by decide), if_pos rfl, sk1]
      generalize paC B a kd 0 nx dp = B1 at hB1 hE1 p1 e7 e8
      rw [toN hB1]
      generalize gI I (B a 7) lv = I1 at hE1 p1
      have o93 : ∀ y, B1 93 y = B 93 y := fun y => hE1.1 93 y (by omega)
      rw [o93]
      have hC1 : BuC a B1 H M (B 93 q) x (lvl + 1) 0 := ⟨hB1, HSt_be hC.1.2.1 hE1 hC.2.1, by omega, hC.2.2.2.1, hwf, ⟨by omega, by omega⟩, by decide, by omega⟩
      refine hW d _ a B1 I1 H M (B 93 q) (B 93 q) 0 0 1 (lvl + 1) (by push_cast at hd; omega) hC1 (by omega) (by omega) (by rw [o93]; exact Nd_be hC.1.2.1 hE1 n4) (by omega) (by omega) (fun B2 I2 v hE2 hB2 z7 z8 hL2 => ⟨v, rfl, hB2.1, hC.1.2.1, ?_⟩)
      rw [if_neg (by decide)] at z7 z8
      refine ⟨by omega, by omega, ?_⟩
      have hE4 : BE a B (brnC B2 a (B a 7) nx v) I I2 := BE_brn (hE1.tr hE2) (Int.le_refl _) (by omega)
      have hB4 : BSt (brnC B2 a (B a 7) nx v) a := BSt_brn hB2 (by omega)
      have a7 : brnC B2 a (B a 7) nx v a 7 = B2 a 7 := brn_o a 7 (by omega)
      have a8 : brnC B2 a (B a 7) nx v a 8 = B2 a 8 := brn_o a 8 (by omega)
      have f2 := hE2.pv (N0 := 0) (Int.le_refl _)
      have q3 := pv_brn3 (a := a) (B := B2) (s := B a 7) (x := nx) (y := v) (I := I2)
      have qb : ∀ (j : Nat) (z' : Int), (z' ≠ B a 7 ∨ (j ≠ 3 ∧ j ≠ 4)) → pvw (brnC B2 a (B a 7) nx v) a I2 j z' = pvw B2 a I2 j z' := fun j z' w => pv_brn j z' w
      refine ⟨_, rfl, hB4.1, kk (brnC B2 a (B a 7) nx v) I2 (B a 7) hE4 hB4 (by rw [a7, if_neg (by decide)]; omega) (by rw [a8, if_neg (by decide)]; omega) ?_⟩
      generalize brnC B2 a (B a 7) nx v = B4 at hE4 hB4 a7 a8 q3 qb
      unfold Ly
      rw [if_neg hk]
      have ekd : (if k = 0 then (7 : Int) else 8) = kd := n2.2.2.symm.trans n23
      refine ⟨v, ⟨?_, q3.1, q3.2, ?_, ?_, Int.le_refl _, by omega⟩, ?_⟩
      · rw [qb 1 _ (by omega), f2 1 _ (by decide) (by decide) (by omega) (by omega), ekd]; exact p1.1
      · rw [qb 5 _ (by omega), f2 5 _ (by decide) (by decide) (by omega) (by omega)]; exact p1.2.2.2.2.1
      · rw [qb 7 _ (by omega), f2 7 _ (by decide) (by decide) (by omega) (by omega)]; exact p1.2.2.2.2.2
      · rw [a7]
        exact Ly_fr (fun j s j0 j1 s0 s1 => qb j s (by omega)) (by omega) (Int.le_refl _) _ _ _ _ _ _ _ hL2
    rw [n23]
    refine ⟨⟨by omega, by omega⟩, fun _ => ⟨by omega, by omega, ⟨by omega, by omega⟩, fun _ => kA, fun _ => kA, fun w => absurd w (by omega), fun w => absurd w (by omega), fun w => absurd w (by omega), fun w1 w2 => absurd k78 (by omega)⟩, fun w => absurd w (by omega)⟩
theorem Rw_num {k : Int} : BuRow h1 (.num k) := by
  intro d Q a B I H M N q nx dp lv lvl cnt hd hC hN hs c0 c1 kk
  unfold Nd at hN
  rw [if_neg (by decide), if_pos rfl] at hN
  obtain ⟨k0, q0⟩ := hN
  have hbk : bkd (.num k) = 0 := rfl
  have l0 := ln_nn (.num k)
  rw [hbk] at hd
  have hst : stc (.num k) = 0 := by unfold stc; rw [if_pos k0]
  have kQ : Q (.inl (some (iv nx))) B := kk B I nx BE.refl hC.1 (by rw [hst, if_neg (by decide)]; omega) (by rw [if_neg (by decide)]; show _ = B a 8 + 0 + 0; omega) ⟨nx, by unfold ent; rw [if_neg (by decide)], by rw [if_pos k0]⟩
  exact c_Bu_buildRow_16_ok (by omega) hC.1.1 ⟨⟨by omega, by omega⟩, fun _ => kQ, fun _ => ⟨⟨by omega, by omega⟩, fun _ => kQ, fun w => absurd q0 w⟩⟩
theorem Rw_add {x y : qT} (hR : BuRow h1 x) (hP : BuPart h1 y) : BuRow h1 (.add x y) := by
  intro d Q a B I H M N q nx dp lv lvl cnt hd hC hN hs c0 c1 kk
  unfold Nd at hN
  obtain ⟨g1, g2, g3, g4⟩ := hN
  have e1 : nrr B 0 q = q := by unfold nrr; rw [if_neg (by decide)]
  rw [if_neg (by decide), e1] at g3
  rw [e1] at g4
  have qb := Nd_part g3
  have hbk : bkd (.add x y) = max (bkd x) (bkd y) := rfl
  have hln : ln (.add x y) = ln x + ln y := rfl
  have hst : stc (.add x y) = stc x + stc y := rfl
  have hsp : spc (.add x y) = spc x + spc y := rfl
  have bx := bkd_nn x
  have by' := bkd_nn y
  have lx := ln_nn x
  have hN408 := hC.2.2.1
  have hpl := pr_lt hC.1.2.1
  have g9 := hC.1.2.2.2.1
  have wx : wf x := hC.2.2.2.2.1.1
  have wy : wf y := hC.2.2.2.2.1.2
  have sx := stc_nn x wx
  have sy := stc_nn y wy
  have ly : 1 ≤ ln y := by
    cases y with
    | num k =>
      unfold Nd at g3; rw [if_pos rfl] at g3
      show 1 ≤ (if k = 0 then (0 : Int) else 1)
      rw [if_neg g3.1]; decide
    | var s => exact (by decide : (1 : Int) ≤ 1)
    | add a b => unfold Nd at g3; exact absurd rfl g3.1
    | sub a b => unfold Nd at g3; exact absurd g3.1 (by decide)
    | neg a => have := ln_nn a; show 1 ≤ ln a + 1; omega
    | mulL k a => have := ln_nn a; show 1 ≤ ln a + 1; omega
    | mulR a k => have := ln_nn a; show 1 ≤ ln a + 1; omega
  refine c_Bu_buildRow_16_ok (by omega) hC.1.1 ⟨⟨by omega, by omega⟩, fun w => absurd w (by omega), fun _ => ⟨⟨by omega, by omega⟩, fun w => absurd w (by omega), fun _ => ?_⟩⟩
  refine hP d _ a B I H M N q nx dp lv lvl (by split <;> omega) (hC.mono wy (by omega) (by omega)) g3 (by omega) (fun B1 I1 v hE1 hB1 z7 z8 hL1 => ⟨v, rfl, hB1.1, by omega, by omega, ?_⟩)
  rw [if_neg (by decide)] at z7 z8
  have hCx := (hC.mono wx (by omega) (by omega)).be hE1 hB1
  refine hR d Q a B1 I1 H M q (B1 94 q) v dp lv lvl (cnt + 1) (by omega) ⟨hCx.1, hCx.2.1, by omega, hCx.2.2.2⟩ (by rw [hE1.1 94 q (by omega)]; exact Nd_be hC.1.2.1 hE1 g4) (by omega) (by omega) (by omega) (fun B2 I2 v2 hE2 hB2 y7 y8 hL2 => ?_)
  rw [if_neg (by decide)] at y7 y8
  refine kk B2 I2 v2 (hE1.tr hE2) hB2 (by rw [if_neg (by decide)]; omega) (by rw [if_neg (by decide)]; omega) ⟨v2, v, by unfold ent; rw [if_neg (by decide)], ?_, ?_⟩
  · exact Ly_fr (fun _ _ _ _ _ _ => rfl) (by omega) (Int.le_refl _) _ _ _ _ _ _ _ hL2
  · exact Ly_fr (hE2.pv (by omega)) (Int.le_refl _) (by omega) _ _ _ _ _ _ _ hL1
theorem Wy_sub {x y : qT} (hR : BuRow h1 y) (hW : BuWay h1 x) (hLy : ∀ (P : qP) (H : Int → Nat → Option Bool) (N0 N lv s v n d al : Int), Ly P H N0 N y lv 0 v n d 0 → spl P N0 N lv s 15 v al d → Ly P H N0 N y lv 1 s n d al) : BuWay h1 (.sub x y) := by
  intro d Q a B I H M N q yy nx dp lv lvl al cnt hd hC hN hq y0 y1 hs c0 c1 kk
  obtain ⟨n1, n2, n3, n4, n5⟩ := hN
  have hbk : bkd (.sub x y) = max (bkd x) (bkd y) := rfl
  have hln : ln (.sub x y) = ln x + ln y + 1 := rfl
  have hst : stc (.sub x y) = stc x + stc y + 1 := rfl
  have hsp : spc (.sub x y) = spc x + spc y + 1 := rfl
  have bx := bkd_nn x
  have by' := bkd_nn y
  have lx := ln_nn x
  have ly := ln_nn y
  have hN408 := hC.2.2.1
  have hpl := pr_lt hC.1.2.1
  have g9 := hC.1.2.2.2.1
  have wx : wf x := hC.2.2.2.2.1.1
  have wy : wf y := hC.2.2.2.2.1.2
  have sx := stc_nn x wx
  have sy := stc_nn y wy
  have q0 := n2.1
  have q1 := n2.2.1
  refine L_way1 (I := I) (lv := lv) hR (by omega) (hC.mono wy (by omega) (by omega)) ⟨y0, y1⟩ hq ⟨q0, by omega⟩ n4 (by omega) (by omega) (by omega) ⟨c0, by omega⟩ (fun B1 I1 t hE1 hB1 z7 z8 v hL hS => ?_)
  have hCx := (hC.mono wx (by omega) (by omega)).be hE1 hB1
  have e94 : B1 94 q = B 94 q := hE1.1 94 q (by omega)
  refine hW d Q a B1 I1 H M q (B 94 q) q nx dp lv lvl t (cnt + 1) (by omega) ⟨hCx.1, hCx.2.1, by omega, hCx.2.2.2⟩ (Nd_be hC.1.2.1 hE1 n5) e94 (by omega) (by omega) (by omega) (by omega) (by omega) (fun B2 I2 v2 hE2 hB2 y7 y8 hL2 => ?_)
  rw [if_pos rfl] at y7 y8
  refine kk B2 I2 v2 (hE1.tr hE2) hB2 (by rw [if_pos rfl]; omega) (by rw [if_pos rfl]; omega) ⟨t, ?_, ?_⟩
  · exact Ly_fr (hE2.pv (by omega)) (Int.le_refl _) (by omega) _ _ _ _ _ _ _ (hLy _ _ _ _ _ _ _ _ _ _ hL hS)
  · exact Ly_fr (fun _ _ _ _ _ _ => rfl) (by omega) (Int.le_refl _) _ _ _ _ _ _ _ hL2
/-- rows as ways -/
theorem Ly_r1n {k : Int} (P : qP) (H : Int → Nat → Option Bool) (N0 N lv s v n d al : Int) (h : Ly P H N0 N (.num k) lv 0 v n d 0) (hs : spl P N0 N lv s 15 v al d) : Ly P H N0 N (.num k) lv 1 s n d al := by
  obtain ⟨s1, g1, g2⟩ := h
  unfold ent at g1
  rw [if_neg (by decide)] at g1
  subst g1
  exact ⟨s1, by unfold ent; rw [if_pos rfl]; exact hs, g2⟩
theorem Ly_r1a {x y : qT} (P : qP) (H : Int → Nat → Option Bool) (N0 N lv s v n d al : Int) (h : Ly P H N0 N (.add x y) lv 0 v n d 0) (hs : spl P N0 N lv s 15 v al d) : Ly P H N0 N (.add x y) lv 1 s n d al := by
  obtain ⟨s1, t, g1, g2⟩ := h
  unfold ent at g1
  rw [if_neg (by decide)] at g1
  subst g1
  exact ⟨s1, t, by unfold ent; rw [if_pos rfl]; exact hs, g2⟩
/-- what is not a row -/
def isRw : qT → Bool
  | .num _ => true
  | .add _ _ => true
  | _ => false
theorem Nd_0 {B : qB} {M N q : Int} {e : qT} (h : Nd B M e N 0 q) : isRw e = true := by
  cases e with
  | num k => rfl
  | add a b => rfl
  | var s => exact absurd h.1 (by decide)
  | sub a b => exact absurd h.1 (by decide)
  | neg a => exact absurd h.1 (by decide)
  | mulL k a => exact absurd h.1 (by decide)
  | mulR a k => exact absurd h.1 (by decide)
theorem Bu_all : ∀ e : qT, BuPart h1 e ∧ BuRow h1 e ∧ BuWay h1 e ∧ BuWys h1 e := by
  have nr : ∀ e : qT, isRw e = false → BuRow h1 e := fun e he d Q a B I H M N q nx dp lv lvl cnt hd hC hN => by
    rw [Nd_0 hN] at he; cases he
  have nw : ∀ e : qT, (∀ (B : qB) (M N q : Int), ¬ Nd B M e N 1 q) → BuWay h1 e ∧ BuWys h1 e := fun e he => ⟨fun d Q a B I H M N q y nx dp lv lvl al cnt hd hC hN => absurd hN (he _ _ _ _), fun d Q a B I H M N q nx dp lv lvl hd hC q0 q1 hN => absurd hN (he _ _ _ _)⟩
  intro e
  induction e with
  | num k =>
    refine ⟨P_num, Rw_num, W_row Rw_num (fun B M N q h => row_num B M N q k h) Ly_r1n, ?_⟩
    intro d Q a B I H M N q nx dp lv lvl hd hC q0 q1 hN hs hl kk
    obtain ⟨r1, r2, r3⟩ := row_num _ _ _ _ _ hN
    exact R_ways1 Rw_num hd hC ⟨q0, q1⟩ r1 r2 r3 hs hl kk
  | var s => exact ⟨P_var, nr _ rfl, nw _ (fun B M N q h => absurd h.1 (by decide))⟩
  | add x y hx hy =>
    have hR := Rw_add hx.2.1 hy.1
    refine ⟨fun d Q a B I H M N q nx dp lv lvl hd hC hN => absurd rfl hN.1, hR, W_row hR (fun B M N q h => row_add B M N q x y h) Ly_r1a, ?_⟩
    intro d Q a B I H M N q nx dp lv lvl hd hC q0 q1 hN hs hl kk
    obtain ⟨r1, r2, r3⟩ := row_add _ _ _ _ _ _ hN
    exact R_ways1 hR hd hC ⟨q0, q1⟩ r1 r2 r3 hs hl kk
  | sub x y hx hy =>
    refine ⟨fun d Q a B I H M N q nx dp lv lvl hd hC hN => absurd hN.1 (by decide), nr _ rfl, ?_, ?_⟩
    · intro d Q a B I H M N q yy nx dp lv lvl al cnt hd hC hN
      have hy0 := Nd_0 hN.2.2.2.1
      refine Wy_sub hy.2.1 hx.2.2.1 ?_ d Q a B I H M N q yy nx dp lv lvl al cnt hd hC hN
      cases y with
      | num k => exact Ly_r1n
      | add a b => exact Ly_r1a
      | var s => cases hy0
      | sub a b => cases hy0
      | neg a => cases hy0
      | mulL k a => cases hy0
      | mulR a k => cases hy0
    · intro d Q a B I H M N q nx dp lv lvl hd hC q0 q1 hN hs hl kk
      exact R_ways2 hy.2.1 hx.2.2.1 hd hC ⟨q0, q1⟩ hN hs hl kk
  | neg x hx => exact ⟨P_neg hx.2.2.2, nr _ rfl, nw _ (fun B M N q h => absurd h.1 (by decide))⟩
  | mulL k x hx => exact ⟨P_mulL hx.2.2.2, nr _ rfl, nw _ (fun B M N q h => absurd h.1 (by decide))⟩
  | mulR x k hx => exact ⟨P_mulR hx.1, nr _ rfl, nw _ (fun B M N q h => absurd h.1 (by decide))⟩
end BD4
