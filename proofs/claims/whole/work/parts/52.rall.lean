/-! THE REFERENCE READS ALL OF A PATTERN -/
section RALL
variable {m : Nat} {h0 : qH} {d : Nat} {B : qB} {Q : qO → qB → Prop}
theorem R_readPattern (hm : m + 100 < 1000000000) (hp : PO B)
    (kE : ∀ w B', sParse (sgB B) = .error w → 0 ≤ w → Er B B' w → Q (.inl none) B')
    (kO : ∀ e gr B', sParse (sgB B) = .ok (e, gr) → B' 35 0 = -1 → nd B' (B' 28 0) (B' 29 0) e (B' 34 0) → wf e → ln e ≤ 200 → B' 30 0 = gr → 0 ≤ gr → gr ≤ 9 → 0 ≤ B' 28 0 → B' 28 0 ≤ 1100 → 0 ≤ B' 29 0 → B' 29 0 ≤ 200 → FrS Kp B B' → Q (.inl none) B') : qZ m h0 (d + 7) k_readPattern 0 [some (.ref m), none, none] [] B Q := by
  have F184 : ∀ w B1, sParse (sgB B) = .error w → 0 ≤ w → Er B B1 w → r_readPattern_184 m h0 (d + 6) B1 Q := by
    intro w B1 he hw hE
    have := hE.2.2.2.2
    unfold r_readPattern_184
    rw [hE.1]
    exact ⟨⟨by omega, by omega⟩, fun _ => kE w B1 he hw hE, fun q => by omega⟩
  have F160 : ∀ w B1, sParse (sgB B) = .error w → 0 ≤ w → Er B B1 w → r_readPattern_160 m h0 (d + 6) B1 Q := by
    intro w B1 he hw hE
    have := hE.2.2.2.2
    unfold r_readPattern_160
    rw [hE.1]
    exact ⟨⟨by omega, by omega⟩, fun _ => F184 w B1 he hw hE, fun q => by omega⟩
  have F42 : ∀ w B1, sParse (sgB B) = .error w → 0 ≤ w → Er B B1 w → qZ m h0 (d + 7) k_readPattern 42 [some (.ref m), none, none] [] B1 Q := by
    intro w B1 he hw hE
    obtain ⟨e1, e2, e3, e4, e5⟩ := hE
    have e32 : B1 32 0 = B 32 0 := e2 32 0 (by unfold Kp; omega)
    obtain ⟨p1, p2, p3⟩ := hp
    refine r_readPattern_42_ok hm ?_
    unfold r_readPattern_42
    rw [e32]
    refine ⟨⟨by omega, by omega⟩, ⟨by omega, by omega⟩, fun _ => F160 w B1 he hw ⟨e1, e2, e3, e4, e5⟩, fun _ => ?_⟩
    rw [e1]
    exact ⟨⟨by omega, by omega⟩, fun _ => F160 w B1 he hw ⟨e1, e2, e3, e4, e5⟩, fun q => by omega⟩
  have ErT : ∀ {B1 B2 : qB} {w : Int}, FrS Kp B B1 → Er B1 B2 w → Er B B2 w := fun f e => ⟨e.1, FrS.tr f e.2.1, e.2.2⟩
  have L : ∀ (n : Nat) (c : sC) (B1 : qB), (n : Int) + c.1 ≥ 201 → PR B1 c → CI c → FrS Kp B B1 → sRun (sgB B) n c = sRun (sgB B) 201 (0, 0, 0, [(1, 0, none, .num 0)]) → qZ m h0 (d + 7) k_readPattern 42 [some (.ref m), none, none] [] B1 Q := by
    intro n
    induction n with
    | zero =>
      intro c B1 q1 _ hC
      have := hC.2.1
      omega
    | succ n ih =>
      intro c B1 q1 hPR hCI hK hR
      obtain ⟨at', gr, lk, fr⟩ := c
      have hPR0 := hPR
      have hCI0 := hCI
      obtain ⟨hFM, h33, h30, h26, h35, n1, n2, s1, s2⟩ := hPR
      obtain ⟨i1, i2, i3, i4, i5, i6, i7, i8, i9⟩ := hCI
      dsimp only at h33 h30 h26 n2 s2 i1 i2 i3 i4 i5 i6 i7 i8 i9 hFM q1
      have hsg : sgB B1 = sgB B := sgB_eq (hK 32 0 (by unfold Kp; omega)) (fun i => hK 31 i (by unfold Kp; omega))
      have hp1 : PO B1 := hp.eq (hK 32 0 (by unfold Kp; omega)) (fun i => hK 31 i (by unfold Kp; omega))
      have hR' : (if sgB B at' = -1 then (.ok (at', gr, lk, fr) : Except Int sC) else match sStep (sgB B) (at', gr, lk, fr) with
          | .error w => .error w
          | .ok c' => sRun (sgB B) n c') = sRun (sgB B) 201 (0, 0, 0, [(1, 0, none, .num 0)]) := hR
      obtain ⟨f, r, rfl⟩ : ∃ f r, fr = f :: r := by
        cases fr with
        | nil => simp at i3
        | cons f r => exact ⟨f, r, rfl⟩
      have h41 : B1 41 0 = r.length + 1 := by rw [hFM.1, List.length_cons]; omega
      have i4' : r.length ≤ 10 := by rw [List.length_cons] at i4; omega
      have e32 : B1 32 0 = B 32 0 := hK 32 0 (by unfold Kp; omega)
      have hpp := hp
      obtain ⟨p1, p2, p3⟩ := hpp
      -- the next round, or the end of a broken one
      have goE : ∀ w B2, sgB B at' ≠ -1 → sStep (sgB B) (at', gr, lk, f :: r) = .error w → 0 ≤ w → Er B1 B2 w → qZ m h0 (d + 7) k_readPattern 42 [some (.ref m), none, none] [] B2 Q := by
        intro w B2 hne hs hw hE
        rw [if_neg hne, hs] at hR'
        refine F42 w B2 ?_ hw (ErT hK hE)
        unfold sParse
        rw [← hR']
      have goO : ∀ c' B2, sgB B at' ≠ -1 → sStep (sgB B) (at', gr, lk, f :: r) = .ok c' → at' < c'.1 → PR B2 c' → CI c' → FrS Kp B1 B2 → qZ m h0 (d + 7) k_readPattern 42 [some (.ref m), none, none] [] B2 Q := by
        intro c' B2 hne hs ha hP hC hF
        rw [if_neg hne, hs] at hR'
        exact ih c' B2 (by omega) hP hC (FrS.tr hK hF) hR'
      obtain ⟨hw, g, wy, rw⟩ := f
      obtain ⟨w1, w2, w3, w4, w5, w6⟩ := i8
      have i9' : lnO wy + ln rw + frL r ≤ at' := i9
      have i7' : lk = (if hw = 5 ∨ hw = 6 then 1 else 0) + lkF r := i7
      have frn := frL_nn r
      have lkr := lkF_bd r
      obtain ⟨cw, cl⟩ := clo_wf w4 w5
      refine r_readPattern_42_ok hm ?_
      unfold r_readPattern_42
      rw [h33, e32]
      refine ⟨⟨by omega, by omega⟩, ⟨by omega, by omega⟩, fun hge => ?_, fun hlt => ?_⟩
      · -- the end
        have hend : sgB B at' = -1 := by unfold sgB; rw [if_neg (by omega)]
        rw [if_pos hend] at hR'
        have hPs : sParse (sgB B) = sTop (at', gr, lk, (hw, g, wy, rw) :: r) := by
          unfold sParse
          rw [← hR']
        unfold r_readPattern_160
        rw [h35, h41]
        refine ⟨⟨by decide, by decide⟩, fun q => by omega, fun _ => ⟨⟨by omega, by omega⟩, fun q => ?_, fun q => ?_⟩⟩
        · have hr0 : r = [] := by
            cases r with
            | nil => rfl
            | cons a b => rw [List.length_cons] at q; omega
          subst hr0
          unfold r_readPattern_184
          rw [h35]
          refine ⟨⟨by decide, by decide⟩, fun q => by omega, fun _ => ?_⟩
          refine qZ.mono (d := d + 3) (R_closed hm (f := (hw, g, wy, rw)) (r := []) n1 (by omega) h35 h41 i4' hFM.2 (fun v B2 hEP => ⟨_, rfl, ?_⟩)) (by omega) (fun _ _ q => q)
          obtain ⟨e1, e2, e3, e4, e5, e6, e7, e8⟩ := hEP
          unfold r_readPattern_196
          refine kO (clo wy rw) gr _ (by rw [hPs]; rfl) (by rw [u2_bank (by decide)]; exact e4) ?_ cw ?_ ?_ i5 i6 ?_ ?_ ?_ ?_ ?_
          · rw [u2_bank (by decide), u2_bank (by decide), u2_same]
            exact nd_fr0 (FrS.u2 FrS.refl (by unfold NdS; omega)) (Int.le_refl _) (Int.le_refl _) _ _ e1
          · have hfl : lnO wy + ln rw + 0 ≤ at' := i9
            cases wy with
            | none => have e9 : lnO none = 0 := rfl
                      show ln rw ≤ 200
                      omega
            | some w => have e9 : lnO (some w) = ln w + 1 := rfl
                        show ln w + ln rw + 1 ≤ 200
                        omega
          · rw [u2_bank (by decide), e2 30 0 (by unfold StN; omega)]; exact h30
          · rw [u2_bank (by decide)]; omega
          · rw [u2_bank (by decide)]; omega
          · rw [u2_bank (by decide)]; omega
          · rw [u2_bank (by decide)]; omega
          · exact FrS.u2 (FrS.tr hK (e2.sub Kp_StN)) (by unfold Kp; omega)
        · rw [h33]
          refine qZ.mono (d := d + 1) (R_wrong hm h35 ⟨_, rfl, ?_⟩) (by omega) (fun _ _ q => q)
          unfold r_readPattern_183
          refine F184 at' _ ?_ i1 (Er_mk hK (by omega) (by omega) (by omega))
          rw [hPs]
          cases r with
          | nil => simp at q
          | cons a b => rfl
      · rw [h35]
        refine ⟨⟨by decide, by decide⟩, fun q => by omega, fun _ => ?_⟩
        have hne : sgB B at' ≠ -1 := by
          unfold sgB
          rw [if_pos hlt]
          split <;> omega
        refine qZ.mono (d := d + 1) (R_signAt hm hp1 i1 (by omega) (fun v s0 r0 => ⟨_, rfl, ?_⟩)) (by omega) (fun _ _ q => q)
        rw [hsg] at s0
        have i124 := lt_iff s0 124 (by decide) (by decide)
        have i40 := lt_iff s0 40 (by decide) (by decide)
        have i41 := lt_iff s0 41 (by decide) (by decide)
        have un : sStep (sgB B) (at', gr, lk, (hw, g, wy, rw) :: r) = (if sgB B at' = 124 then .ok (at' + 1, gr, lk, (hw, g, some (clo wy rw), .num 0) :: r) else if sgB B at' = 40 then sBr (sgB B) at' gr lk ((hw, g, wy, rw) :: r) else if sgB B at' = 41 then sCl (sgB B) at' gr lk (hw, g, wy, rw) r else match sAt (sgB B) at' with
            | .error w => .error w
            | .ok (e, a) => match sQt (sgB B) lk e a with
              | .error w => .error w
              | .ok (q, a') => .ok (a', gr, lk, (hw, g, wy, .add rw q) :: r)) := rfl
        unfold r_readPattern_68
        refine ⟨r0, fun q124 => ⟨fun q40 => ⟨fun q41 => ?_, fun q41 => ?_⟩, fun q40 => ?_⟩, fun q124 => ?_⟩
        · -- an atom
          rw [if_neg (by omega), if_neg (by omega), if_neg (by omega)] at un
          refine qZ.mono (d := d + 6) (R_atom hm hp1 h35 (by omega) (by omega) n1 (by omega) s1 (by omega) (fun w v B2 he hw' hE => ⟨_, rfl, ?_⟩) (fun e a v B2 ho a1 a2 hEP => ⟨_, rfl, ?_⟩)) (by omega) (fun _ _ q => q)
          · rw [h33, hsg] at he
            rw [he] at un
            have hE5 := hE.2.2.2.2
            unfold r_readPattern_151
            refine qZ.mono (d := d + 3) (r_quantified_0_ok (d := d + 2) hm ?_) (by omega) (fun _ _ q => q)
            unfold r_quantified_0
            rw [hE.1]
            refine ⟨⟨by omega, by omega⟩, fun q => by omega, fun _ => ⟨_, rfl, ?_⟩⟩
            unfold r_readPattern_154
            refine qZ.mono (d := d + 1) (r_joins_0_ok (d := d) hm ?_) (by omega) (fun _ _ q => q)
            unfold r_joins_0
            rw [hE.1]
            refine ⟨⟨by omega, by omega⟩, fun _ => ⟨rfl, ?_⟩, fun q => by omega⟩
            unfold r_readPattern_157
            exact goE w B2 hne un hw' hE
          · rw [h33, hsg] at ho
            rw [h33] at a1
            rw [ho] at un
            dsimp only at un
            have hF2 := FM_EP hFM hEP
            obtain ⟨e1, e2, e3, e4, e5, e6, e7, e8⟩ := hEP
            obtain ⟨aw, al⟩ := sAt_bd ho
            have K2 : FrS Kp B1 B2 := e2.sub Kp_StN
            have hp2 : PO B2 := hp1.eq (K2 32 0 (by unfold Kp; omega)) (fun i => K2 31 i (by unfold Kp; omega))
            have hs2 : sgB B2 = sgB B := (sgB_eq (K2 32 0 (by unfold Kp; omega)) (fun i => K2 31 i (by unfold Kp; omega))).trans hsg
            have d30 : B2 30 0 = gr := (e2 30 0 (by unfold StN; omega)).trans h30
            have d26 : B2 26 0 = lk := (e2 26 0 (by unfold StN; omega)).trans h26
            unfold r_readPattern_151
            refine ((R_rest (d := d) hm (at0 := at') (a := a) (gr := gr) (lk := lk) (e := e) (hw := hw) (g := g) (wy := wy) (rw := rw) (r := r) (Qz := fun o B' => o = .inl none ∧ r_readPattern_157 m h0 (d + 6) B' Q) hp2 hF2 e3 d30 d26 e4 (by omega) (by omega) (by omega) (by omega) i1 a1 a2 i5 i6 i7 ⟨w1, w2, w3, w4, w5, w6⟩ i4' aw (by omega) (by omega) e1 (fun w B' he hw' hE => ⟨rfl, ?_⟩) (fun q a' B' ho2 hP hC hK2 => ⟨rfl, ?_⟩)).mono (d' := d + 6) (by omega) (fun o B' ⟨v, ho, h⟩ => ⟨v, ho, by unfold r_readPattern_154; exact h.mono (by omega) (fun _ _ q => q)⟩))
            · rw [hs2] at he
              rw [he] at un
              unfold r_readPattern_157
              exact goE w B' hne un hw' ⟨hE.1, FrS.tr K2 hE.2.1, hE.2.2⟩
            · rw [hs2] at ho2
              rw [ho2] at un
              have := (sQt_bd aw ho2).2.1
              unfold r_readPattern_157
              exact goO _ B' hne un (show at' < a' by omega) hP hC (FrS.tr K2 hK2)
        · rw [if_neg (by omega), if_neg (by omega), if_pos (by omega)] at un
          refine qZ.mono (d := d + 4) (R_close hm hp1 hPR0 hCI0 (by rw [hsg]; omega) (fun w B2 he hw' hE => ⟨rfl, ?_⟩) (fun c' B2 ho ha hP hC hF => ⟨rfl, ?_⟩)) (by omega) (fun _ _ q => q)
          · rw [hsg] at he
            unfold r_readPattern_142 r_readPattern_157
            exact goE w B2 hne (un.trans he) hw' hE
          · rw [hsg] at ho
            unfold r_readPattern_142 r_readPattern_157
            exact goO c' B2 hne (un.trans ho) ha hP hC hF
        · rw [if_neg (by omega), if_pos (by omega)] at un
          refine qZ.mono (d := d + 3) (R_bracket hm hp1 hPR0 hCI0 (by rw [hsg]; omega) (fun w B2 he hw' hE => ⟨rfl, ?_⟩) (fun c' B2 ho ha hP hC hF => ⟨rfl, ?_⟩)) (by omega) (fun _ _ q => q)
          · rw [hsg] at he
            unfold r_readPattern_129 r_readPattern_157
            exact goE w B2 hne (un.trans he) hw' hE
          · rw [hsg] at ho
            unfold r_readPattern_129 r_readPattern_157
            exact goO c' B2 hne (un.trans ho) ha hP hC hF
        · rw [if_pos (by omega)] at un
          have hlt2 : at' < 200 := sg_end hp i1 (by omega)
          rw [h33]
          have z28 : (u2 B1 33 0 (at' + 1)) 28 0 = B1 28 0 := u2_bank (by decide)
          have z29 : (u2 B1 33 0 (at' + 1)) 29 0 = B1 29 0 := u2_bank (by decide)
          have FM0 : FM (u2 B1 33 0 (at' + 1)) ((hw, g, wy, rw) :: r) := FM_u2 hFM (by omega)
          refine qZ.mono (d := d + 3) (R_closed hm (f := (hw, g, wy, rw)) (r := r) (by rw [z28]; omega) (by rw [z28]; omega) (by rw [u2_bank (by decide)]; exact h35) (by rw [u2_bank (by decide)]; exact h41) i4' FM0.2 (fun x B2 hEP => ⟨_, rfl, ?_⟩)) (by omega) (fun _ _ q => q)
          have FM2 := FM_EP FM0 hEP
          obtain ⟨e1, e2, e3, e4, e5, e6, e7, e8⟩ := hEP
          rw [z28, z29] at e2
          rw [z28] at e5 e6
          rw [z29] at e7 e8
          rw [u2_same] at e3
          dsimp only at e1
          have eo : B1 41 0 - 1 = (r.length : Int) := by omega
          have k30 : B2 30 0 = gr := by rw [e2 30 0 (by unfold StN; omega), u2_bank (by decide)]; exact h30
          have k26 : B2 26 0 = lk := by rw [e2 26 0 (by unfold StN; omega), u2_bank (by decide)]; exact h26
          have kK : FrS Kp B1 B2 := fun b y q => (e2 b y (Kp_StN b y q)).trans (u2_bank (by unfold Kp at q; omega))
          unfold r_readPattern_101
          rw [eo]
          have y28 : (u2 B2 38 r.length x) 28 0 = B2 28 0 := u2_bank (by decide)
          refine ⟨by omega, by omega, ?_⟩
          refine qZ.mono (d := d + 1) (R_newNode hm (by rw [y28]; omega) (by rw [y28]; omega) ⟨_, rfl, ?_⟩) (by omega) (fun _ _ q => q)
          rw [y28]
          unfold r_readPattern_115
          refine ⟨by omega, by omega, ?_⟩
          generalize hB3 : nnB (u2 B2 38 r.length x) 11 0 0 = B3
          have v28 : B3 28 0 = B2 28 0 + 1 := by rw [← hB3, nnB_28, y28]
          have v17 : B3 17 (B2 28 0) = 11 := by rw [← hB3, ← y28]; exact nnB_nd.1
          have v24 : B3 24 (B2 28 0) = 0 := by rw [← hB3, ← y28]; simp [nnB, u2]
          have v25 : B3 25 (B2 28 0) = 0 := by rw [← hB3, ← y28]; simp [nnB, u2]
          have vO : ∀ b y, (b < 17 ∨ 25 < b) → b ≠ 28 → b ≠ 38 → B3 b y = B2 b y := fun b y q1 q2 q3 => by rw [← hB3, nnB_oth q1 q2, u2_bank q3]
          have v38 : B3 38 r.length = x := by rw [← hB3, nnB_oth (by omega) (by decide), u2_same]
          have vS : FrS (NdS (B2 28 0) (B2 29 0)) B2 B3 := by
            intro b y q
            rw [← hB3]
            by_cases hb : b = 27
            · rw [nnB_oth (by omega) (by omega), u2_bank (by omega)]
            · rw [nnB_old (by rw [y28]; unfold NdS at q; omega) (by unfold NdS at q; omega), u2_bank (by unfold NdS at q; omega)]
          have vS4 : FrS (NdS (B2 28 0) (B2 29 0)) B2 (u2 B3 39 r.length (B2 28 0)) := FrS.u2 vS (by unfold NdS; omega)
          unfold r_readPattern_157
          refine goO _ _ hne un (show at' < at' + 1 by omega) ⟨⟨?_, ?_⟩, ?_, ?_, ?_, ?_, ?_, ?_, ?_, ?_⟩ ⟨?_, ?_, ?_, ?_, i5, i6, i7, ⟨w1, w2, w3, cw, ⟨by decide, by decide⟩, w6⟩, ?_⟩ ?_
          · rw [u2_bank (by decide), vO 41 0 (by omega) (by decide) (by decide), FM2.1]; rfl
          · have g28 : (u2 B3 39 r.length (B2 28 0)) 28 0 = B2 28 0 + 1 := by rw [u2_bank (by decide), v28]
            have g29 : (u2 B3 39 r.length (B2 28 0)) 29 0 = B2 29 0 := by rw [u2_bank (by decide), vO 29 0 (by omega) (by decide) (by decide)]
            rw [g28, g29]
            refine ⟨?_, ?_, ?_, ?_, ?_⟩
            · rw [u2_bank (by decide), vO 36 _ (by omega) (by decide) (by decide)]; exact FM2.2.1
            · rw [u2_bank (by decide), vO 37 _ (by omega) (by decide) (by decide)]; exact FM2.2.2.1
            · show nd _ _ _ (clo wy rw) ((u2 B3 39 r.length (B2 28 0)) 38 r.length)
              rw [u2_bank (by decide), v38]
              exact nd_fr0 vS4 (by omega) (Int.le_refl _) _ _ e1
            · rw [u2_same]
              exact ⟨by omega, by omega, by rw [u2_bank (by decide), v17]; rfl, by rw [u2_bank (by decide), v24]; rfl, by rw [u2_bank (by decide), v25]⟩
            · refine frR_fr (by omega) (Int.le_refl _) r vS4 (fun b y p1 p2 p3 p4 => ?_) FM2.2.2.2.2.2
              rw [u2_idx (by omega), ← hB3, nnB_oth (by omega) (by omega), u2_idx (by omega)]
          · rw [u2_bank (by decide), vO 33 0 (by omega) (by decide) (by decide)]; exact e3
          · rw [u2_bank (by decide), vO 30 0 (by omega) (by decide) (by decide)]; exact k30
          · rw [u2_bank (by decide), vO 26 0 (by omega) (by decide) (by decide)]; exact k26
          · rw [u2_bank (by decide), vO 35 0 (by omega) (by decide) (by decide)]; exact e4
          · rw [u2_bank (by decide), v28]; omega
          · rw [u2_bank (by decide), v28]; show B2 28 0 + 1 ≤ 1 + 5 * (at' + 1); omega
          · rw [u2_bank (by decide), vO 29 0 (by omega) (by decide) (by decide)]; omega
          · rw [u2_bank (by decide), vO 29 0 (by omega) (by decide) (by decide)]; show B2 29 0 ≤ at' + 1; omega
          · show 0 ≤ at' + 1; omega
          · show at' + 1 ≤ 200; omega
          · exact i3
          · exact i4
          · show ln (clo wy rw) + 1 + 0 + frL r ≤ at' + 1; omega
          · exact fun b y q => by rw [u2_bank (by unfold Kp at q; omega), vO b y (by unfold Kp at q; omega) (by unfold Kp at q; omega) (by unfold Kp at q; omega)]; exact kK b y q
  refine r_readPattern_0_ok hm ?_
  unfold r_readPattern_0
  generalize hB0 : u2 (u2 (u2 (u2 (u2 (u2 (u2 B 28 0 0) 29 0 0) 30 0 0) 26 0 0) 33 0 0) 41 0 0) 35 0 (-1) = B0
  have a28 : B0 28 0 = 0 := by rw [← hB0]; simp [u2]
  have a29 : B0 29 0 = 0 := by rw [← hB0]; simp [u2]
  have a30 : B0 30 0 = 0 := by rw [← hB0]; simp [u2]
  have a26 : B0 26 0 = 0 := by rw [← hB0]; simp [u2]
  have a33 : B0 33 0 = 0 := by rw [← hB0]; simp [u2]
  have a41 : B0 41 0 = 0 := by rw [← hB0]; simp [u2]
  have a35 : B0 35 0 = -1 := by rw [← hB0]; simp [u2]
  have aK : FrS Kp B B0 := by
    rw [← hB0]
    refine FrS.u2 (FrS.u2 (FrS.u2 (FrS.u2 (FrS.u2 (FrS.u2 (FrS.u2 FrS.refl ?_) ?_) ?_) ?_) ?_) ?_) ?_ <;> unfold Kp <;> omega
  refine qZ.mono (d := d + 2) (R_opens hm (fr := []) (by omega) (by omega) ⟨a41, trivial⟩ (by simp) (fun B1 F1 q28 q29 qO => ⟨rfl, ?_⟩)) (by omega) (fun _ _ q => q)
  refine L 201 (0, 0, 0, [(1, 0, none, .num 0)]) B1 (by decide) ⟨F1, ?_, ?_, ?_, ?_, ?_, ?_, ?_, ?_⟩ ⟨by decide, by decide, by decide, by decide, by decide, by decide, rfl, ⟨Or.inl rfl, fun q => by omega, fun _ => rfl, trivial, ⟨by decide, by decide⟩, trivial⟩, by decide⟩ (FrS.tr aK (fun b y q => qO b y (by unfold Kp at q; omega))) rfl
  · rw [qO 33 0 (by omega)]; exact a33
  · rw [qO 30 0 (by omega)]; exact a30
  · rw [qO 26 0 (by omega)]; exact a26
  · rw [qO 35 0 (by omega)]; exact a35
  · omega
  · show B1 28 0 ≤ 1 + 5 * 0; omega
  · omega
  · show B1 29 0 ≤ 0; omega
end RALL
