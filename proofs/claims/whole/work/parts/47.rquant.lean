/-! THE REFERENCE READS A QUANTIFIER -/
section RQUANT
variable {m : Nat} {h0 : qH} {d : Nat} {B : qB} {Q : qO → qB → Prop}
theorem wRep_g {w l h g : Int} (h1 : 0 ≤ l) (h2 : l < 32) (h3 : -1 ≤ h) (h4 : h < 31) : wRep w (rc l h g) = l * w + (if h < 0 then w + 1 else (h - l) * (w + 1)) + (if g = 2 then 1 else 0) := by
  unfold wRep
  rw [rc_l h1 h2, rc_h h1 h2 h3 h4, rc_g h1 h2 h3 h4]
theorem R_quantified (hm : m + 100 < 1000000000) {x : Int} {e : qT} (hp : PO B) (hf : B 35 0 = -1) (h1 : 0 ≤ B 33 0) (h2 : B 33 0 ≤ 200) (hN1 : 0 ≤ B 28 0) (hN2 : B 28 0 < 3000) (hlk : R32 (B 26 0)) (hnd : nd B (B 28 0) (B 29 0) e x) (hwf : wf e) (hln : ln e ≤ 200)
    (kE : ∀ w v B', sQt (sgB B) (B 26 0) e (B 33 0) = .error w → 0 ≤ w → Er B B' w → Q (.inl (some (iv v))) B')
    (kO : ∀ q a v B', sQt (sgB B) (B 26 0) e (B 33 0) = .ok (q, a) → B 33 0 ≤ a → a ≤ 200 → EP B B' v q a 1 0 → Q (.inl (some (iv v))) B') : qZ m h0 (d + 3) k_quantified 0 [some (.ref m), some (iv x), none, none, none, none, none, none] [] B Q := by
  obtain ⟨x0, xN, x24, x25⟩ := nd_w hnd
  have hwb := wR_bd e hwf
  have hln0 := ln_nn e
  -- behind the quantifier itself
  have T285 : ∀ (c l h a1 : Int), 0 ≤ l → l ≤ 20 → (h = -1 ∨ l ≤ h) → h ≤ 20 → 0 ≤ a1 → a1 ≤ 200 → B 33 0 ≤ a1 → R32 c → (c = 43 → l = 1 ∧ h = -1) → (¬ c = 43 → ¬ c = 123 → l = 0 ∧ (h = -1 ∨ h = 1)) → sQt (sgB B) (B 26 0) e (B 33 0) = sTl (sgB B) (B 26 0) e l h a1 → r_quantified_285 m h0 (d + 2) x c l h (u2 B 33 0 a1) Q := by
    intro c l h a1 l0 l1 hh hh2 a0 a2 aB rc0 c43 cno hsq
    have e28 : (u2 B 33 0 a1) 28 0 = B 28 0 := u2_bank (by decide)
    unfold r_quantified_285
    refine qZ.mono (d := d + 1) (R_newNode hm (by rw [e28]; omega) (by rw [e28]; omega) ⟨_, rfl, ?_⟩) (by omega) (fun _ _ q => q)
    rw [e28]
    generalize hB1 : nnB (u2 B 33 0 a1) 3 x 0 = B1
    have f1 : FrS (StN (B 28 0) (B 29 0)) B B1 := by
      rw [← hB1]
      exact nnB_fr (FrS.u2 FrS.refl (by unfold StN; omega)) (by rw [e28]; omega)
    have b28 : B1 28 0 = B 28 0 + 1 := by rw [← hB1]; unfold nnB; rw [u2_same, e28]
    have b29 : B1 29 0 = B 29 0 := by rw [← hB1]; simp [nnB, u2]
    have b17 : B1 17 (B 28 0) = 3 := by rw [← hB1]; simp [nnB, u2]
    have b18 : B1 18 (B 28 0) = x := by rw [← hB1]; simp [nnB, u2]
    have b22 : B1 22 (B 28 0) = 0 := by rw [← hB1]; simp [nnB, u2]
    have b33 : B1 33 0 = a1 := by rw [← hB1]; simp [nnB, u2]
    have b35 : B1 35 0 = -1 := by rw [← hB1, ← hf]; simp [nnB, u2]
    have bx24 : B1 24 x = wR e := (f1 24 x (by unfold StN; omega)).trans x24
    unfold r_quantified_292
    generalize hB2 : u2 (u2 B1 20 (B 28 0) l) 21 (B 28 0) h = B2
    have f2 : FrS (StN (B 28 0) (B 29 0)) B B2 := by
      rw [← hB2]
      exact FrS.u2 (FrS.u2 f1 (by unfold StN; omega)) (by unfold StN; omega)
    have c28 : B2 28 0 = B 28 0 + 1 := by rw [← hB2, u2_bank (by decide), u2_bank (by decide), b28]
    have c29 : B2 29 0 = B 29 0 := by rw [← hB2, u2_bank (by decide), u2_bank (by decide), b29]
    have c17 : B2 17 (B 28 0) = 3 := by rw [← hB2, u2_bank (by decide), u2_bank (by decide), b17]
    have c18 : B2 18 (B 28 0) = x := by rw [← hB2, u2_bank (by decide), u2_bank (by decide), b18]
    have c20 : B2 20 (B 28 0) = l := by rw [← hB2, u2_bank (by decide), u2_same]
    have c21 : B2 21 (B 28 0) = h := by rw [← hB2, u2_same]
    have c22 : B2 22 (B 28 0) = 0 := by rw [← hB2, u2_bank (by decide), u2_bank (by decide), b22]
    have c33 : B2 33 0 = a1 := by rw [← hB2, u2_bank (by decide), u2_bank (by decide), b33]
    have c35 : B2 35 0 = -1 := by rw [← hB2, u2_bank (by decide), u2_bank (by decide), b35]
    have cx24 : B2 24 x = wR e := (f2 24 x (by unfold StN; omega)).trans x24
    have c26 : B2 26 0 = B 26 0 := f2 26 0 (by unfold StN; omega)
    have p2 : PO B2 := hp.eq (f2 32 0 (by unfold StN; omega)) (fun i => f2 31 i (by unfold StN; omega))
    have g2 : sgB B2 = sgB B := sgB_eq (f2 32 0 (by unfold StN; omega)) (fun i => f2 31 i (by unfold StN; omega))
    have hw9 : ∀ g, 0 ≤ wRep (wR e) (rc l h g) ∧ wRep (wR e) (rc l h g) ≤ 900000000 := by
      intro g
      refine wRep_bd hwb.1 (by omega) ?_ ?_ ?_ ?_
      · rw [rc_l l0 (by omega)]; exact l0
      · rw [rc_l l0 (by omega)]; exact l1
      · rw [rc_l l0 (by omega), rc_h l0 (by omega) (by omega) (by omega)]; exact hh
      · rw [rc_h l0 (by omega) (by omega) (by omega)]; exact hh2
    -- the end: manner g
    have fin : ∀ (g a9 : Int) (B3 : qB), 0 ≤ g → g ≤ 2 → FrS (StN (B 28 0) (B 29 0)) B B3 → B3 28 0 = B 28 0 + 1 → B3 29 0 = B 29 0 → B3 17 (B 28 0) = 3 → B3 18 (B 28 0) = x → B3 20 (B 28 0) = l → B3 21 (B 28 0) = h → B3 22 (B 28 0) = g → B3 33 0 = a9 → B3 35 0 = -1 → B 33 0 ≤ a9 → a9 ≤ 200 → sTl (sgB B) (B 26 0) e l h a1 = .ok (.mulR e (rc l h g), a9) → r_quantified_481 m h0 (d + 2) x (B 28 0) (wRep (wR e) (rc l h g)) B3 Q := by
      intro g a9 B3 g0 g2' f3 d28 d29 d17 d18 d20 d21 d22 d33 d35 a91 a92 htl
      have dx25 : B3 25 x = bi (aT e) := (f3 25 x (by unfold StN; omega)).trans x25
      have hw := hw9 g
      have ok : ∀ w' t, w' = wR (.mulR e (rc l h g)) → t = bi (aT (.mulR e (rc l h g))) → Q (.inl (some (iv (B 28 0)))) (u2 (u2 B3 24 (B 28 0) w') 25 (B 28 0) t) := by
        intro w' t hw' ht
        refine kO _ a9 _ _ (hsq.trans htl) a91 a92 ?_
        have e28' : (u2 (u2 B3 24 (B 28 0) w') 25 (B 28 0) t) 28 0 = B 28 0 + 1 := by rw [u2_bank (by decide), u2_bank (by decide), d28]
        have e29' : (u2 (u2 B3 24 (B 28 0) w') 25 (B 28 0) t) 29 0 = B 29 0 := by rw [u2_bank (by decide), u2_bank (by decide), d29]
        have fr' : FrS (StN (B 28 0) (B 29 0)) B (u2 (u2 B3 24 (B 28 0) w') 25 (B 28 0) t) := FrS.u2 (FrS.u2 f3 (by unfold StN; omega)) (by unfold StN; omega)
        refine ⟨?_, fr', by rw [u2_bank (by decide), u2_bank (by decide), d33], by rw [u2_bank (by decide), u2_bank (by decide), d35], by rw [e28']; omega, by rw [e28']; omega, by rw [e29']; omega, by rw [e29']; omega⟩
        rw [e28', e29']
        refine ⟨hN1, by omega, ?_, ?_, ?_, ?_, ?_, ?_, ?_⟩
        · rw [u2_bank (by decide), u2_bank (by decide), d17]
        · rw [u2_bank (by decide), u2_bank (by decide), d18]
          exact nd_fr fr' (by omega) (Int.le_refl _) _ _ hnd
        · rw [u2_bank (by decide), u2_bank (by decide), d20, rc_l l0 (by omega)]
        · rw [u2_bank (by decide), u2_bank (by decide), d21, rc_h l0 (by omega) (by omega) (by omega)]
        · rw [u2_bank (by decide), u2_bank (by decide), d22, rc_g l0 (by omega) (by omega) (by omega)]
        · rw [u2_bank (by decide), u2_same, hw']
        · rw [u2_same, ht]
      have aTe : aT (.mulR e (rc l h g)) = (aT e || decide (g = 2)) := by
        show (aT e || decide (rg (rc l h g) = 2)) = _
        rw [rc_g l0 (by omega) (by omega) (by omega)]
      have n501 : ∀ w', w' = wR (.mulR e (rc l h g)) → r_quantified_501 m h0 (d + 2) x (B 28 0) (B 28 0) w' B3 Q := by
        intro w' hw'
        unfold r_quantified_501
        rw [dx25, d22]
        refine ⟨hN1, hN2, x0, by omega, bi_R _, fun q => ⟨hN1, hN2, ok w' 1 hw' ?_⟩, fun q => ⟨hN1, hN2, ⟨by omega, by omega⟩, fun q2 => ok w' 0 hw' ?_, fun q2 => ok w' 1 hw' ?_⟩⟩
        · rw [aTe, bi_n q]; rfl
        · rw [aTe, bi_0 q]; simp [bi, q2]
        · rw [aTe, bi_0 q]; simp [bi, q2]
      have wRe : wR (.mulR e (rc l h g)) = if wRep (wR e) (rc l h g) < 100000 then wRep (wR e) (rc l h g) else 100000 := rfl
      unfold r_quantified_481
      refine ⟨⟨by omega, by omega⟩, fun q => n501 _ ?_, fun q => n501 _ ?_⟩
      · rw [wRe, if_neg (by omega)]
      · rw [wRe, if_pos q]
    have n388 : r_quantified_388 m h0 (d + 2) x (B 28 0) (wRep (wR e) (rc l h 0)) B2 Q := by
      unfold r_quantified_388
      rw [c33]
      refine qZ.mono (d := d + 1) (R_signAt hm p2 a0 (by omega) (fun v s0 r0 => ⟨_, rfl, ?_⟩)) (by omega) (fun _ _ q => q)
      rw [g2] at s0
      have i63 := lt_iff s0 63 (by decide) (by decide)
      have i43 := lt_iff s0 43 (by decide) (by decide)
      have wE : ∀ g, ¬ g = 2 → wRep (wR e) (rc l h g) = wRep (wR e) (rc l h 0) := by
        intro g hg
        rw [wRep_g l0 (by omega) (by omega) (by omega), wRep_g l0 (by omega) (by omega) (by omega), if_neg hg, if_neg (show ¬ (0 : Int) = 2 by decide)]
      have w2 : wRep (wR e) (rc l h 2) = wRep (wR e) (rc l h 0) + 1 := by
        rw [wRep_g l0 (by omega) (by omega) (by omega), wRep_g l0 (by omega) (by omega) (by omega), if_pos rfl, if_neg (show ¬ (0 : Int) = 2 by decide)]
        omega
      unfold r_quantified_396
      refine ⟨r0, fun q => ?_, fun q => ⟨hN1, hN2, ?_⟩⟩
      · rw [c33]
        refine qZ.mono (d := d + 1) (R_signAt hm p2 a0 (by omega) (fun v' s' r' => ⟨_, rfl, ?_⟩)) (by omega) (fun _ _ q => q)
        rw [g2] at s'
        have j43 := lt_iff s' 43 (by decide) (by decide)
        have n451 : sTl (sgB B) (B 26 0) e l h a1 = .error a1 → r_quantified_451 m h0 (d + 2) B2 Q := by
          intro ht
          unfold r_quantified_451
          rw [c33]
          refine qZ.mono (d := d + 1) (R_wrong hm c35 ⟨_, rfl, ?_⟩) (by omega) (fun _ _ q => q)
          unfold r_quantified_459
          exact kE _ _ _ (hsq.trans ht) a0 (Er_mk (f2.sub Kp_StN) (by omega) (by omega) (by omega))
        unfold r_quantified_430
        rw [c26]
        refine ⟨r', fun q2 => ?_, fun q2 => ⟨hlk, fun q3 => n451 ?_, fun q3 => ⟨x0, by omega, ?_⟩⟩⟩
        · exact fin 0 a1 B2 (by decide) (by decide) f2 c28 c29 c17 c18 c20 c21 c22 c33 c35 aB a2 (by unfold sTl; rw [if_neg (by omega), if_neg (by omega)])
        · unfold sTl
          rw [if_neg (by omega), if_pos (by omega), if_pos (Or.inl q3)]
        · have cx25 : B2 25 x = bi (aT e) := (f2 25 x (by unfold StN; omega)).trans x25
          rw [cx25, c33]
          have hlt : a1 < 200 := sg_end hp a0 (by omega)
          refine ⟨bi_R _, fun q4 => ⟨hN1, hN2, ?_⟩, fun q4 => n451 ?_⟩
          · have hz := bi_0 q4
            rw [← w2]
            refine fin 2 (a1 + 1) _ (by decide) (by decide) (FrS.u2 (FrS.u2 f2 (by unfold StN; omega)) (by unfold StN; omega)) (by rw [u2_bank (by decide), u2_bank (by decide), c28]) (by rw [u2_bank (by decide), u2_bank (by decide), c29]) (by rw [u2_bank (by decide), u2_bank (by decide), c17]) (by rw [u2_bank (by decide), u2_bank (by decide), c18]) (by rw [u2_bank (by decide), u2_bank (by decide), c20]) (by rw [u2_bank (by decide), u2_bank (by decide), c21]) (by rw [u2_bank (by decide), u2_same]) u2_same (by rw [u2_bank (by decide), u2_bank (by decide), c35]) (by omega) (by omega) ?_
            unfold sTl
            rw [if_neg (by omega), if_pos (by omega), if_neg]
            rw [hz]
            rintro (q | q)
            · omega
            · cases q
          · unfold sTl
            rw [if_neg (by omega), if_pos (by omega), if_pos (Or.inr (bi_n q4))]
      · rw [c33]
        have hlt : a1 < 200 := sg_end hp a0 (by omega)
        rw [← wE 1 (by decide)]
        refine fin 1 (a1 + 1) _ (by decide) (by decide) (FrS.u2 (FrS.u2 f2 (by unfold StN; omega)) (by unfold StN; omega)) (by rw [u2_bank (by decide), u2_bank (by decide), c28]) (by rw [u2_bank (by decide), u2_bank (by decide), c29]) (by rw [u2_bank (by decide), u2_bank (by decide), c17]) (by rw [u2_bank (by decide), u2_bank (by decide), c18]) (by rw [u2_bank (by decide), u2_bank (by decide), c20]) (by rw [u2_bank (by decide), u2_bank (by decide), c21]) (by rw [u2_bank (by decide), u2_same]) u2_same (by rw [u2_bank (by decide), u2_bank (by decide), c35]) (by omega) (by omega) ?_
        unfold sTl
        rw [if_pos (by omega)]
    have n340 : ∀ w, (¬ c = 123 → w = wRep (wR e) (rc l h 0)) → r_quantified_340 m h0 (d + 2) x c l h (B 28 0) w B2 Q := by
      intro w hw
      unfold r_quantified_340
      rw [cx24]
      refine ⟨rc0, fun q => ?_, fun q => ⟨x0, by omega, ⟨by omega, by omega⟩, fun q2 => ?_, fun q2 => ?_⟩⟩
      · rw [hw q]; exact n388
      · unfold r_quantified_385
        rw [wRep_g l0 (by omega) (by omega) (by omega), if_neg (by omega), if_neg (by decide), Int.add_zero] at n388
        exact n388
      · unfold r_quantified_385
        rw [wRep_g l0 (by omega) (by omega) (by omega), if_pos (by omega), if_neg (by decide), Int.add_zero] at n388
        exact n388
    rw [bx24]
    refine ⟨hN1, hN2, x0, by omega, rc0, fun q => n340 _ (fun q2 => ?_), fun q => n340 _ (fun q2 => ?_)⟩
    · obtain ⟨rfl, hh9⟩ := cno q q2
      rw [wRep_g (by omega) (by omega) (by omega) (by omega), if_neg (show ¬ (0 : Int) = 2 by decide)]
      rcases hh9 with rfl | rfl
      · rw [if_pos (by decide)]; omega
      · rw [if_neg (by decide)]; omega
    · obtain ⟨rfl, rfl⟩ := c43 q
      rw [wRep_g (by omega) (by omega) (by omega) (by omega), if_neg (show ¬ (0 : Int) = 2 by decide), if_pos (by decide)]
      omega
  -- a broken one comes back
  have F266 : ∀ (c l h w : Int) (B1 : qB), sQt (sgB B) (B 26 0) e (B 33 0) = .error w → 0 ≤ w → R32 w → Er B B1 w → r_quantified_266 m h0 (d + 2) x c l h B1 Q := by
    intro c l h w B1 he hw hR hE
    unfold r_quantified_266
    rw [hE.1]
    exact ⟨hR, fun q => by omega, fun _ => kE _ _ _ he hw hE⟩
  have F237 : ∀ (c l h w : Int) (B1 : qB), sQt (sgB B) (B 26 0) e (B 33 0) = .error w → 0 ≤ w → R32 w → Er B B1 w → r_quantified_237 m h0 (d + 2) x c l h B1 Q := by
    intro c l h w B1 he hw hR hE
    unfold r_quantified_237
    rw [hE.1]
    exact ⟨hR, fun _ => F266 c l h w B1 he hw hR hE, fun q => by omega⟩
  have n57 : ∀ z, (z = 0 ∨ z = 1) → (¬ z = 0 ↔ noq e = true) → r_quantified_57 m h0 (d + 2) x z B Q := by
    intro z hz hnq
    unfold r_quantified_57
    refine qZ.mono (d := d + 1) (R_signAt hm hp h1 (by omega) (fun v s0 r0 => ⟨_, rfl, ?_⟩)) (by omega) (fun _ _ q => q)
    have i42 := lt_iff s0 42 (by decide) (by decide)
    have i43 := lt_iff s0 43 (by decide) (by decide)
    have i63 := lt_iff s0 63 (by decide) (by decide)
    have i123 := lt_iff s0 123 (by decide) (by decide)
    have n93 : (v = 42 ∨ v = 43 ∨ v = 63 ∨ v = 123) → r_quantified_93 m h0 (d + 2) x z v B Q := by
      intro hv
      have ev : v = sgB B (B 33 0) := by omega
      have hlt : B 33 0 < 200 := sg_end hp h1 (by omega)
      have hq : isQt (sgB B (B 33 0)) = true := by unfold isQt; simp; omega
      unfold r_quantified_93
      refine ⟨⟨by omega, by omega⟩, fun q => ?_, fun q => ?_⟩
      · have nn : ¬ noq e = true := fun w => (hnq.mpr w) q
        have un : sQt (sgB B) (B 26 0) e (B 33 0) = if sgB B (B 33 0) = 123 then (match sNm (sgB B) (B 33 0 + 1) with
            | .error w => .error w
            | .ok (l, a1) => if sgB B a1 = 44 then (if sgB B (a1 + 1) = 125 then sTl (sgB B) (B 26 0) e l (-1) (a1 + 2) else match sNm (sgB B) (a1 + 1) with
              | .error w => .error w
              | .ok (h, a2) => if h < l then .error (a1 + 1) else if sgB B a2 = 125 then sTl (sgB B) (B 26 0) e l h (a2 + 1) else .error a2) else if sgB B a1 = 125 then sTl (sgB B) (B 26 0) e l l (a1 + 1) else .error a1)
            else sTl (sgB B) (B 26 0) e (if sgB B (B 33 0) = 43 then 1 else 0) (if sgB B (B 33 0) = 63 then 1 else -1) (B 33 0 + 1) := by
          unfold sQt
          rw [if_pos hq, if_neg nn]
          rfl
        have n130 : ∀ l h, l = (if v = 43 then 1 else 0) → h = (if v = 63 then 1 else -1) → r_quantified_130 m h0 (d + 2) x v l h B Q := by
          intro l h hl hh
          unfold r_quantified_130
          refine ⟨r0, fun q2 => ?_, fun q2 => ?_⟩
          · rw [if_neg (by omega)] at un
            rw [← ev, ← hl, ← hh] at un
            refine T285 v l h (B 33 0 + 1) ?_ ?_ ?_ ?_ (by omega) (by omega) (by omega) r0 ?_ ?_ un
            · rw [hl]; split <;> omega
            · rw [hl]; split <;> omega
            · rw [hl, hh]; split <;> split <;> omega
            · rw [hh]; split <;> omega
            · intro q3; rw [hl, hh, if_pos q3, if_neg (by omega)]; exact ⟨rfl, rfl⟩
            · intro q3 _
              rw [hl, hh, if_neg q3]
              refine ⟨rfl, ?_⟩
              split
              · exact Or.inr rfl
              · exact Or.inl rfl
          · rw [if_pos (by omega)] at un
            have e33 : (u2 B 33 0 (B 33 0 + 1)) 33 0 = B 33 0 + 1 := u2_same
            have hpn : PO (u2 B 33 0 (B 33 0 + 1)) := hp.u2 (by decide) (by decide)
            have hsn : ∀ a, sgB (u2 B 33 0 a) = sgB B := fun a => sgB_u2 (by decide) (by decide)
            refine R_number hm hpn (by rw [u2_bank (by decide)]; exact hf) (by rw [e33]; omega) (by rw [e33]; omega) (fun v9 a9 z1 z2 he => ⟨_, rfl, ?_⟩) (fun l' a' ho l0 l1 a1 a2 => ⟨_, rfl, ?_⟩)
            · rw [e33, hsn] at he
              rw [he] at un
              rw [e33]
              have hE : Er B (u2 (u2 (u2 B 33 0 (B 33 0 + 1)) 33 0 a9) 35 0 (B 33 0 + 1)) (B 33 0 + 1) := Er_mk (FrS.u2 (FrS.u2 FrS.refl (by unfold Kp; omega)) (by unfold Kp; omega)) (by rw [u2_same]; omega) (by rw [u2_same]; omega) (by omega)
              unfold r_quantified_152
              rw [hE.1]
              exact ⟨⟨by omega, by omega⟩, fun _ => F237 _ _ _ _ _ un (by omega) ⟨by omega, by omega⟩ hE, fun q => by omega⟩
            · rw [e33, hsn] at ho
              rw [e33] at a1
              rw [ho] at un
              dsimp only at un
              rw [u2_u2]
              have hpa : ∀ a, PO (u2 B 33 0 a) := fun a => hp.u2 (by decide) (by decide)
              have e35 : ∀ a, (u2 B 33 0 a) 35 0 = -1 := fun a => by rw [u2_bank (by decide)]; exact hf
              have EW : ∀ a w, 0 ≤ a → a ≤ 300 → w ≤ 300 → Er B (u2 (u2 B 33 0 a) 35 0 w) w := fun a w y1 y2 y3 => Er_mk (FrS.u2 FrS.refl (by unfold Kp; omega)) (by rw [u2_same]; omega) (by rw [u2_same]; omega) (by omega)
              unfold r_quantified_152
              rw [e35, u2_same]
              refine ⟨⟨by decide, by decide⟩, fun q => by omega, fun _ => ?_⟩
              refine qZ.mono (d := d + 1) (R_signAt hm (hpa _) (by omega) (by omega) (fun v2 s2 r2 => ⟨_, rfl, ?_⟩)) (by omega) (fun _ _ q => q)
              rw [hsn] at s2
              have i44 := lt_iff s2 44 (by decide) (by decide)
              -- what comes at last: }
              have n237 : ∀ (h' a9 : Int), 0 ≤ a9 → a9 ≤ 200 → B 33 0 ≤ a9 → (sgB B a9 = 125 → (h' = -1 ∨ l' ≤ h') ∧ h' ≤ 20 ∧ sQt (sgB B) (B 26 0) e (B 33 0) = sTl (sgB B) (B 26 0) e l' h' (a9 + 1)) → (¬ sgB B a9 = 125 → sQt (sgB B) (B 26 0) e (B 33 0) = .error a9) → r_quantified_237 m h0 (d + 2) x v l' h' (u2 B 33 0 a9) Q := by
                intro h' a9 b0 b1 b2 y n
                unfold r_quantified_237
                rw [e35, u2_same]
                refine ⟨⟨by decide, by decide⟩, fun q => by omega, fun _ => ?_⟩
                refine qZ.mono (d := d + 1) (R_signAt hm (hpa _) (by omega) (by omega) (fun v3 s3 r3 => ⟨_, rfl, ?_⟩)) (by omega) (fun _ _ q => q)
                rw [hsn] at s3
                have i125 := lt_iff s3 125 (by decide) (by decide)
                unfold r_quantified_252
                refine ⟨r3, fun q3 => ?_, fun q3 => ?_⟩
                · obtain ⟨y1, y2, y3⟩ := y (by omega)
                  have hlt9 : a9 < 200 := sg_end hp b0 (by omega)
                  unfold r_quantified_266
                  rw [e35, u2_same, u2_u2]
                  exact ⟨⟨by decide, by decide⟩, fun _ => T285 v l' h' (a9 + 1) l0 l1 y1 y2 (by omega) (by omega) (by omega) r0 (fun q => by omega) (fun _ q => by omega) y3, fun q => by omega⟩
                · rw [u2_same]
                  refine qZ.mono (d := d + 1) (R_wrong hm (e35 _) ⟨_, rfl, ?_⟩) (by omega) (fun _ _ q => q)
                  unfold r_quantified_265
                  exact F266 _ _ _ a9 _ (n (by omega)) b0 ⟨by omega, by omega⟩ (EW _ _ (by omega) (by omega) (by omega))
              unfold r_quantified_173
              refine ⟨r2, fun q3 => ?_, fun q3 => ?_⟩
              · rw [if_neg (by omega)] at un
                refine n237 l' a' (by omega) a2 (by omega) (fun q4 => ⟨Or.inr (Int.le_refl _), l1, ?_⟩) (fun q4 => ?_)
                · rw [if_pos q4] at un; exact un
                · rw [if_neg q4] at un; exact un
              · rw [if_pos (by omega)] at un
                have hlta : a' < 200 := sg_end hp (by omega) (by omega)
                rw [u2_same, u2_u2]
                refine qZ.mono (d := d + 1) (R_signAt hm (hpa _) (by omega) (by omega) (fun v4 s4 r4 => ⟨_, rfl, ?_⟩)) (by omega) (fun _ _ q => q)
                rw [hsn] at s4
                have i125 := lt_iff s4 125 (by decide) (by decide)
                unfold r_quantified_199
                refine ⟨r4, fun q5 => ?_, fun q5 => ?_⟩
                · rw [if_pos (by omega)] at un
                  refine n237 (-1) (a' + 1) (by omega) (by omega) (by omega) (fun q4 => ⟨Or.inl rfl, by decide, ?_⟩) (fun q4 => by omega)
                  rw [show a' + 1 + 1 = a' + 2 by omega]; exact un
                · rw [if_neg (by omega)] at un
                  have e33' : (u2 B 33 0 (a' + 1)) 33 0 = a' + 1 := u2_same
                  rw [e33']
                  refine R_number hm (hpa _) (e35 _) (by rw [e33']; omega) (by rw [e33']; omega) (fun v9 a9 z1 z2 he => ⟨_, rfl, ?_⟩) (fun h' b' ho2 h0' h1' b1 b2 => ⟨_, rfl, ?_⟩)
                  · rw [e33', hsn] at he
                    rw [he] at un
                    rw [e33', u2_u2]
                    have hE := EW a9 (a' + 1) (by omega) (by omega) (by omega)
                    unfold r_quantified_214
                    rw [hE.1]
                    exact ⟨⟨by omega, by omega⟩, fun _ => F237 _ _ _ _ _ un (by omega) ⟨by omega, by omega⟩ hE, fun q => by omega⟩
                  · rw [e33', hsn] at ho2
                    rw [e33'] at b1
                    rw [ho2] at un
                    dsimp only at un
                    rw [u2_u2]
                    unfold r_quantified_214
                    rw [e35]
                    refine ⟨⟨by decide, by decide⟩, fun q => by omega, fun _ => ⟨⟨by omega, by omega⟩, ⟨by omega, by omega⟩, fun q6 => ?_, fun q6 => ?_⟩⟩
                    · rw [if_neg (by omega)] at un
                      refine n237 h' b' (by omega) b2 (by omega) (fun q4 => ⟨Or.inr q6, h1', ?_⟩) (fun q4 => ?_)
                      · rw [if_pos q4] at un; exact un
                      · rw [if_neg q4] at un; exact un
                    · rw [if_pos (by omega)] at un
                      refine qZ.mono (d := d + 1) (R_wrong hm (e35 _) ⟨_, rfl, ?_⟩) (by omega) (fun _ _ q => q)
                      unfold r_quantified_236
                      exact F237 _ _ _ (a' + 1) _ un (by omega) ⟨by omega, by omega⟩ (EW _ _ (by omega) (by omega) (by omega))
        have n117 : ∀ l, l = (if v = 43 then 1 else 0) → r_quantified_117 m h0 (d + 2) x v l B Q := by
          intro l hl
          unfold r_quantified_117
          exact ⟨r0, fun q3 => n130 l _ hl (by rw [if_neg q3]), fun q3 => n130 l _ hl (by rw [if_pos q3])⟩
        exact ⟨r0, fun q3 => n117 _ (by rw [if_neg q3]), fun q3 => n117 _ (by rw [if_pos q3])⟩
      · refine qZ.mono (d := d + 1) (R_wrong hm hf ⟨_, rfl, ?_⟩) (by omega) (fun _ _ q => q)
        unfold r_quantified_105
        refine kE _ _ _ ?_ h1 (Er_mk FrS.refl h1 (by omega) (by omega))
        unfold sQt
        rw [if_pos hq, if_pos (hnq.mp q)]
    unfold r_quantified_66
    refine ⟨r0, fun q => n93 (by omega), fun w1 => ⟨fun q => n93 (by omega), fun w2 => ⟨fun q => n93 (by omega), fun w3 => ⟨fun q => n93 (by omega), fun w4 => ?_⟩⟩⟩⟩
    have hq : ¬ isQt (sgB B (B 33 0)) = true := by unfold isQt; simp; omega
    refine kO e (B 33 0) _ _ (by unfold sQt; rw [if_neg hq]) (Int.le_refl _) h2 ⟨hnd, FrS.refl, rfl, hf, Int.le_refl _, by omega, Int.le_refl _, by omega⟩
  have hR17 : R32 (B 17 x) ∧ ((7 ≤ B 17 x ∧ B 17 x ≤ 10) ∨ B 17 x = 5 ∨ B 17 x = 6 ↔ noq e = true) := by
    cases e with
    | num k =>
      obtain ⟨q1, q2⟩ := hwf
      have := hnd.2.2.1
      unfold noq
      by_cases hk : k = 0
      · rw [if_pos hk] at this
        refine ⟨⟨by omega, by omega⟩, ?_⟩
        simp [hk]; omega
      · rw [if_neg hk] at this
        refine ⟨⟨by omega, by omega⟩, ?_⟩
        simp [hk]; omega
    | var s =>
      have := hnd.2.2.1
      unfold noq
      refine ⟨⟨by omega, by omega⟩, ?_⟩
      simp; omega
    | add a b =>
      have := hnd.2.2.1
      unfold noq
      refine ⟨⟨by omega, by omega⟩, ?_⟩
      simp; omega
    | sub a b =>
      have := hnd.2.2.1
      unfold noq
      refine ⟨⟨by omega, by omega⟩, ?_⟩
      simp; omega
    | neg a =>
      have := hnd.2.2.1
      unfold noq
      refine ⟨⟨by omega, by omega⟩, ?_⟩
      simp; omega
    | mulL k a =>
      have h17 := hnd.2.2.1
      unfold noq
      by_cases hk : 1 ≤ k
      · rw [if_pos hk] at h17
        refine ⟨⟨by omega, by omega⟩, ?_⟩
        simp; omega
      · rw [if_neg hk] at h17
        refine ⟨by rw [h17]; split <;> exact ⟨by decide, by decide⟩, ?_⟩
        simp
        split at h17 <;> omega
    | mulR a k =>
      have := hnd.2.2.1
      unfold noq
      refine ⟨⟨by omega, by omega⟩, ?_⟩
      simp; omega
  obtain ⟨hR, hi⟩ := hR17
  have n52 : ((7 ≤ B 17 x ∧ B 17 x ≤ 10) ∨ B 17 x = 5 ∨ B 17 x = 6) → r_quantified_52 m h0 (d + 2) x B Q := by
    intro q
    unfold r_quantified_52
    exact n57 1 (Or.inr rfl) ⟨fun _ => hi.mp q, fun _ => by decide⟩
  have n31 : ¬ (7 ≤ B 17 x ∧ B 17 x ≤ 10) → r_quantified_31 m h0 (d + 2) x B Q := by
    intro q
    unfold r_quantified_31
    exact ⟨x0, by omega, hR, fun q2 => n52 (by omega), fun q2 => ⟨fun q3 => n57 0 (Or.inl rfl) ⟨fun q4 => absurd rfl q4, fun q4 => by have := hi.mpr q4; omega⟩, fun q3 => n52 (by omega)⟩⟩
  refine r_quantified_0_ok hm ?_
  unfold r_quantified_0
  rw [hf]
  exact ⟨⟨by decide, by decide⟩, fun _ => ⟨x0, by omega, hR, fun q => n31 (by omega), fun q => ⟨fun q2 => n52 (by omega), fun q2 => n31 (by omega)⟩⟩, fun q => by omega⟩
end RQUANT
