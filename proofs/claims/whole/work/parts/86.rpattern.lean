/-! THE REFERENCE'S CALLS: pattern -/
theorem OI_m1 {B B' : qB} (h : OI B) (f : ∀ b y, (Pb b y ∧ b ≠ 2 ∧ b ≠ 3) ∨ (b = 31 ∧ y < 0) ∨ b = 59 ∨ b = 51 → B' b y = B b y) (h1 : 0 ≤ B' 2 0 ∧ B' 2 0 ≤ 1200) (h14 : -1 ≤ B' 3 0 ∧ B' 3 0 ≤ 5000) : OI B' := by
  have h' := h
  obtain ⟨g1, g2, g3, g4, g5, g6, g7, g8, g9, g10, g11, g12, g13, g14⟩ := h
  have a : ∀ b y, (b = 1 ∨ (4 ≤ b ∧ b ≤ 11) ∨ b = 14 ∨ b = 50 ∨ b = 71) → B' b y = B b y := fun b y q => f b y (Or.inl ⟨by unfold Pb; omega, by omega, by omega⟩)
  exact OI_gen h' (fun b y q => by
    rcases q with q | q | q | q | q | q
    · exact a b y (by omega)
    · exact a b y (by omega)
    · exact a b y (by omega)
    · exact a b y (by omega)
    · exact f b y (by omega)
    · exact f b y (by omega)) h1 (fun i i0 i1 => by rw [a 1 i (by omega)]; exact g2 i i0 i1) (fun x x0 x1 => by rw [a 5 x (by omega)]; exact g5 x x0 x1) (fun x x0 x1 => by rw [a 9 x (by omega)]; exact g6 x x0 x1) (by rw [a 14 0 (by omega)]; exact g7) (fun i i0 i1 => by rw [a 10 i (by omega), a 11 i (by omega)]; exact g8 i i0 i1) (fun q q0 q1 => by rw [f 51 q (by omega)]; exact g10 q q0 q1) (by rw [a 71 0 (by omega)]; exact g12) (fun i i0 i1 => by rw [a 50 i (by omega)]; exact g13 i i0 i1) h14
section RPAT
variable {m : Nat} {h0 : qH} {d : Nat} {B : qB} {Q : qO → qB → Prop}
/-- a call of pattern that is refused: the tape is empty, the place w -/
def Pr (B B' : qB) (thr w : Int) : Prop := OI B' ∧ B' 0 0 = thr ∧ B' 2 0 = 0 ∧ B' 3 0 = w ∧ ∀ b y, Pb b y → b ≠ 2 → b ≠ 3 → B' b y = B b y
theorem R_pattern (hm : m + 100 < 1000000000) {p : Int} (hp : R32 p) (hO : OI B)
    (k1 : ¬ (0 ≤ p ∧ p ≤ 7) → ∀ B', Pr B B' 1 (-1) → Q (.inl (some (iv 0))) B')
    (k2 : (0 ≤ p ∧ p ≤ 7) → ∀ w, sParse (sgF (B 1) (min (B 2 0) 200)) = .error w → ∀ B', Pr B B' 2 w → Q (.inl (some (iv 0))) B')
    (k3 : (0 ≤ p ∧ p ≤ 7) → ∀ e gr, sParse (sgF (B 1) (min (B 2 0) 200)) = .ok (e, gr) → 200 < B 2 0 → ∀ B', Pr B B' 2 200 → Q (.inl (some (iv 0))) B')
    (k4 : (0 ≤ p ∧ p ≤ 7) → ∀ e gr, sParse (sgF (B 1) (min (B 2 0) 200)) = .ok (e, gr) → B 2 0 ≤ 200 → 400 < wR e → ∀ B', Pr B B' 3 (-1) → Q (.inl (some (iv 0))) B')
    (k5 : (0 ≤ p ∧ p ≤ 7) → ∀ e gr, sParse (sgF (B 1) (min (B 2 0) 200)) = .ok (e, gr) → B 2 0 ≤ 200 → wR e ≤ 400 → ∀ B', OI B' → B' 0 0 = 0 → B' 2 0 = 0 → B' 3 0 = -1 → (∀ b y, Pb b y → b ≠ 2 → b ≠ 3 → b ≠ 4 → b ≠ 6 → b ≠ 7 → b ≠ 8 → B' b y = B b y) → B' 6 p = B 2 0 + 1 → B' 7 p = wR e → B' 8 p = gr → (∀ s, s ≠ p → B' 6 s = B 6 s ∧ B' 7 s = B 7 s ∧ B' 8 s = B 8 s) → (∀ i, 0 ≤ i → i < B 2 0 → B' 4 (200 * p + i) = B 1 i) → (∀ x, ¬ (200 * p ≤ x ∧ x < 200 * p + B 2 0) → B' 4 x = B 4 x) → tre B' p = e → Q (.inl (some (iv (wR e)))) B') : qZ m h0 (d + 8) k_pattern 0 [some (.ref m), some (iv p), none, none] [] B Q := by
  have hO0 := hO
  obtain ⟨g1, g2, g3, g4, g5, g6, g7, g8, g9, g10, g11, g12, g13, g14⟩ := hO
  refine r_pattern_0_ok hm ?_
  unfold r_pattern_0
  refine qZ.mono (d := d + 1) (R_take hm hO0 (fun B1 hT => ⟨rfl, ?_⟩)) (by omega) (fun _ _ q => q)
  obtain ⟨t1, t2, t3, t4⟩ := hT
  unfold r_pattern_4
  have a2 : ∀ b y, b ≠ 2 → b ≠ 3 → b ≠ 15 → b ≠ 16 → (u2 B1 3 0 (-1)) b y = B b y := fun b y q1 q2 q3 q4 => by rw [u2_bank q2]; exact t1 b y q1 q3 q4
  have a20 : (u2 B1 3 0 (-1)) 2 0 = 0 := by rw [u2_bank (by decide)]; exact t2
  have a30 : (u2 B1 3 0 (-1)) 3 0 = -1 := u2_same
  have a16 : (u2 B1 3 0 (-1)) 16 0 = B 2 0 := by rw [u2_bank (by decide)]; exact t3
  have a15 : ∀ i, 0 ≤ i → i < B 2 0 → (u2 B1 3 0 (-1)) 15 i = B 1 i := fun i i0 i1 => by rw [u2_bank (by decide)]; exact t4 i i0 i1
  generalize u2 B1 3 0 (-1) = B2 at *
  -- a memory that is refused
  have mkPr : ∀ (B' : qB) (thr w : Int), (∀ b y, (b ≤ 16 ∧ b ≠ 0 ∧ b ≠ 3) ∨ (b = 31 ∧ y < 0) ∨ 42 ≤ b → B' b y = B2 b y) → B' 0 0 = thr → B' 3 0 = w → -1 ≤ w → w ≤ 5000 → Pr B B' thr w := by
    intro B' thr w f e0 e3 w0 w1
    have e2 : B' 2 0 = 0 := (f 2 0 (by omega)).trans a20
    refine ⟨OI_m1 hO0 (fun b y q => ?_) (by omega) (by omega), e0, e2, e3, fun b y q n2 n3 => ?_⟩
    · rw [f b y (by unfold Pb at q; omega)]
      exact a2 b y (by unfold Pb at q; omega) (by unfold Pb at q; omega) (by unfold Pb at q; omega) (by unfold Pb at q; omega)
    · rw [f b y (by unfold Pb at q; omega)]
      exact a2 b y n2 n3 (by unfold Pb at q; omega) (by unfold Pb at q; omega)
  refine qZ.mono (d := d + 1) (R_in2 hm hp ⟨by decide, by decide⟩ ⟨by decide, by decide⟩ (fun q1 q2 => ⟨_, rfl, ?_⟩) (fun q => ⟨_, rfl, ?_⟩)) (by omega) (fun _ _ q => q)
  · unfold r_pattern_16
    rw [a16]
    have main : r_pattern_45 m h0 (d + 7) p (min (B 2 0) 200) B2 Q := by
      unfold r_pattern_45
      have n0 : 0 ≤ min (B 2 0) 200 := by omega
      have n1 : min (B 2 0) 200 ≤ 200 := by omega
      have n2 : min (B 2 0) 200 ≤ B 2 0 := by omega
      have n3 : B 2 0 ≤ 200 → min (B 2 0) 200 = B 2 0 := by omega
      generalize hnn : min (B 2 0) 200 = n at *
      have L : ∀ (N : Nat) (x : Int) (Bk : qB), 0 ≤ x → x + N = n → (∀ b y, b ≠ 31 → Bk b y = B2 b y) → (∀ y, y < 0 → Bk 31 y = B2 31 y) → (∀ i, 0 ≤ i → i < x → Bk 31 i = B 1 i) → qZ m h0 (d + 8) k_pattern 48 [some (.ref m), some (iv p), some (iv n), some (iv x)] [] Bk Q := by
        intro N
        induction N with
        | zero =>
          intro x Bk x0 hx e1 e2 e3
          have hx' : x = n := by omega
          subst hx'
          refine r_pattern_48_ok hm ?_
          unfold r_pattern_48
          refine ⟨⟨by omega, by omega⟩, ⟨by omega, by omega⟩, fun _ => ?_, fun q => by omega⟩
          have f3 : ∀ b y, b ≠ 31 → b ≠ 32 → (u2 Bk 32 0 x) b y = B2 b y := fun b y q1 q2 => by rw [u2_bank q2]; exact e1 b y q1
          have f32 : (u2 Bk 32 0 x) 32 0 = x := u2_same
          have f31 : ∀ i, 0 ≤ i → i < x → (u2 Bk 32 0 x) 31 i = B 1 i := fun i i0 i1 => by rw [u2_bank (by decide)]; exact e3 i i0 i1
          have f31n : ∀ y, y < 0 → (u2 Bk 32 0 x) 31 y = 0 := fun y hy => by rw [u2_bank (by decide), e2 y hy, a2 31 y (by decide) (by decide) (by decide) (by decide)]; exact g9 y hy
          have f31m : ∀ y, y < 0 → (u2 Bk 32 0 x) 31 y = B2 31 y := fun y hy => by rw [u2_bank (by decide)]; exact e2 y hy
          generalize u2 Bk 32 0 x = B3 at *
          have esg : sgB B3 = sgF (B 1) x := by
            funext i
            unfold sgB sgF
            rw [f32]
            by_cases h1 : i < x
            · rw [if_pos h1, if_pos h1]
              by_cases h2 : i < 0
              · rw [if_pos h2, f31n i h2, if_neg (by omega)]
              · rw [if_neg h2, f31 i (by omega) h1]
            · rw [if_neg h1, if_neg h1]
          have hPO : PO B3 := ⟨by omega, by omega, fun i i0 i1 => by rw [f31 i i0 (by omega)]; have := g2 i i0 (by omega); omega⟩
          have toK : ∀ B' : qB, FrS Kp B3 B' → ∀ b y, (b ≤ 16) ∨ (b = 31 ∧ y < 0) ∨ 42 ≤ b → B' b y = B2 b y := fun B' f b y q => by
            rw [f b y (by unfold Kp; omega)]
            by_cases hb : b = 31
            · subst hb; exact f31m y (by omega)
            · exact f3 b y hb (by omega)
          refine R_readPattern hm hPO (fun w B' he hw hE => ⟨rfl, ?_⟩) (fun e gr B' he q3 q4 q5 q6 q7 q8 q9 q10 q11 q12 q13 q14 => ⟨rfl, ?_⟩)
          · rw [esg] at he
            obtain ⟨E1, E2, E3, E4, E5⟩ := hE
            have tk := toK B' E2
            unfold r_pattern_80
            rw [E1]
            refine ⟨⟨by omega, by omega⟩, fun _ => ?_, fun q => by omega⟩
            unfold r_pattern_104
            rw [E1]
            refine ⟨⟨by omega, by omega⟩, fun q => by omega, fun _ => ?_⟩
            refine R_refuse hm ⟨_, rfl, ?_⟩
            unfold r_pattern_124
            refine k2 ⟨q1, q2⟩ w he _ (mkPr _ 2 w (fun b y q => ?_) u2_same (by rw [u2_bank (by decide), u2_same]) (by omega) (by omega))
            rw [u2_bank (by omega), u2_bank (by omega)]
            exact tk b y (by omega)
          · rw [esg] at he
            have tk := toK B' q14
            have hwl := wR_bd e q5
            have nw := nd_w q4
            have e16 : B' 16 0 = B 2 0 := (tk 16 0 (by omega)).trans a16
            unfold r_pattern_80
            rw [q3, e16]
            refine ⟨⟨by decide, by decide⟩, fun q => absurd q (by decide), fun _ => ⟨⟨by omega, by omega⟩, fun hle => ?_, fun hgt => ?_⟩⟩
            · unfold r_pattern_104
              rw [q3, nw.2.2.1]
              refine ⟨⟨by decide, by decide⟩, fun _ => ⟨nw.1, by omega, ⟨by omega, by omega⟩, fun hw => ?_, fun hw => ?_⟩, fun q => absurd q (by decide)⟩
              · -- it is kept
                have hxn := n3 hle
                have b5 : ∀ b y, b ≠ 0 → (u2 B' 0 0 0) b y = B' b y := fun b y q => u2_bank q
                have b50 : (u2 B' 0 0 0) 0 0 = 0 := u2_same
                generalize u2 B' 0 0 0 = B5 at *
                have L2 : ∀ (N : Nat) (z : Int) (Bj : qB), 0 ≤ z → z + N = x → (∀ b y, b ≠ 4 → Bj b y = B5 b y) → (∀ i, 0 ≤ i → i < z → Bj 4 (200 * p + i) = B 1 i) → (∀ v, ¬ (200 * p ≤ v ∧ v < 200 * p + z) → Bj 4 v = B 4 v) → qZ m h0 (d + 8) k_pattern 153 [some (.ref m), some (iv p), some (iv x), some (iv z)] [] Bj Q := by
                  intro N
                  induction N with
                  | zero =>
                    intro z Bj z0 hz i1 i2 i3
                    have hzx : z = x := by omega
                    subst hzx
                    refine r_pattern_153_ok hm ?_
                    unfold r_pattern_153
                    have j34 : Bj 34 0 = B' 34 0 := by rw [i1 34 0 (by decide)]; exact b5 34 0 (by decide)
                    have j24 : Bj 24 (B' 34 0) = wR e := by rw [i1 24 _ (by decide), b5 24 _ (by decide)]; exact nw.2.2.1
                    have j30 : Bj 30 0 = gr := by rw [i1 30 0 (by decide), b5 30 0 (by decide)]; exact q7
                    rw [j34, j24, j30, u2_same]
                    refine ⟨⟨by omega, by omega⟩, ⟨by omega, by omega⟩, fun _ => ⟨q1, by omega, nw.1, by omega, ?_⟩, fun q => by omega⟩
                    have al : ∀ b y, b ≠ 6 → b ≠ 7 → b ≠ 8 → b ≠ 4 → b ≠ 0 → (b ≤ 16 ∨ (b = 31 ∧ y < 0) ∨ 42 ≤ b) → (u2 (u2 (u2 Bj 6 p (z + 1)) 7 p (wR e)) 8 p gr) b y = B2 b y := fun b y c1 c2 c3 c4 c5 c6 => by rw [u2_bank c3, u2_bank c2, u2_bank c1, i1 b y c4, b5 b y c5]; exact tk b y c6
                    have m6 : (u2 (u2 (u2 Bj 6 p (z + 1)) 7 p (wR e)) 8 p gr) 6 p = z + 1 := by rw [u2_bank (by decide), u2_bank (by decide), u2_same]
                    have m7 : (u2 (u2 (u2 Bj 6 p (z + 1)) 7 p (wR e)) 8 p gr) 7 p = wR e := by rw [u2_bank (by decide), u2_same]
                    have m8 : (u2 (u2 (u2 Bj 6 p (z + 1)) 7 p (wR e)) 8 p gr) 8 p = gr := u2_same
                    have n6 : ∀ b s, (b = 6 ∨ b = 7 ∨ b = 8) → s ≠ p → (u2 (u2 (u2 Bj 6 p (z + 1)) 7 p (wR e)) 8 p gr) b s = B b s := fun b s hb hs => by
                      rw [u2_idx hs, u2_idx hs, u2_idx hs, i1 b s (by omega), b5 b s (by omega), tk b s (by omega)]
                      exact a2 b s (by omega) (by omega) (by omega) (by omega)
                    have m4 : ∀ v, (u2 (u2 (u2 Bj 6 p (z + 1)) 7 p (wR e)) 8 p gr) 4 v = Bj 4 v := fun v => by rw [u2_bank (by decide), u2_bank (by decide), u2_bank (by decide)]
                    have m0 : (u2 (u2 (u2 Bj 6 p (z + 1)) 7 p (wR e)) 8 p gr) 0 0 = 0 := by rw [u2_bank (by decide), u2_bank (by decide), u2_bank (by decide), i1 0 0 (by decide)]; exact b50
                    generalize u2 (u2 (u2 Bj 6 p (z + 1)) 7 p (wR e)) 8 p gr = Bz at *
                    have c4 : ∀ i, 0 ≤ i → i < B 2 0 → Bz 4 (200 * p + i) = B 1 i := fun i i0 i1' => (m4 _).trans (i2 i i0 (by omega))
                    have c4o : ∀ v, ¬ (200 * p ≤ v ∧ v < 200 * p + B 2 0) → Bz 4 v = B 4 v := fun v hv => (m4 v).trans (i3 v (by omega))
                    have fr : ∀ b y, (Pb b y ∧ b ≠ 2 ∧ b ≠ 3 ∧ b ≠ 4 ∧ b ≠ 6 ∧ b ≠ 7 ∧ b ≠ 8) ∨ (b = 31 ∧ y < 0) ∨ b = 59 ∨ b = 51 → Bz b y = B b y := fun b y q => by
                      rw [al b y (by unfold Pb at q; omega) (by unfold Pb at q; omega) (by unfold Pb at q; omega) (by unfold Pb at q; omega) (by unfold Pb at q; omega) (by unfold Pb at q; omega)]
                      exact a2 b y (by unfold Pb at q; omega) (by unfold Pb at q; omega) (by unfold Pb at q; omega) (by unfold Pb at q; omega)
                    have z20 : Bz 2 0 = 0 := (al 2 0 (by decide) (by decide) (by decide) (by decide) (by decide) (by omega)).trans a20
                    have z30 : Bz 3 0 = -1 := (al 3 0 (by decide) (by decide) (by decide) (by decide) (by decide) (by omega)).trans a30
                    have esg2 : sgF (pB Bz p) (Bz 6 p - 1) = sgF (B 1) z := by
                      funext i
                      unfold sgF
                      rw [m6, show z + 1 - 1 = z by omega]
                      by_cases h1 : i < z
                      · rw [if_pos h1, if_pos h1]
                        by_cases h2 : i < 0
                        · rw [if_pos h2, if_pos h2]
                        · rw [if_neg h2, if_neg h2]
                          unfold pB
                          rw [c4 i (by omega) (by omega)]
                      · rw [if_neg h1, if_neg h1]
                    have htre : tre Bz p = e := by
                      unfold tre
                      rw [esg2, he]
                    refine k5 ⟨q1, q2⟩ e gr he hle hw Bz ?_ m0 z20 z30 (fun b y q c2 c3 c4 c6 c7 c8 => fr b y (Or.inl ⟨q, c2, c3, c4, c6, c7, c8⟩)) (by rw [m6]; omega) m7 m8 (fun s hs => ⟨n6 6 s (by omega) hs, n6 7 s (by omega) hs, n6 8 s (by omega) hs⟩) c4 c4o htre
                    have a : ∀ b y, (b = 1 ∨ b = 5 ∨ b = 9 ∨ b = 10 ∨ b = 11 ∨ b = 14 ∨ b = 50 ∨ b = 71 ∨ b = 59 ∨ b = 51) → Bz b y = B b y := fun b y q => fr b y (by unfold Pb; omega)
                    refine ⟨by omega, fun i i0 i1 => by rw [a 1 i (by omega)]; exact g2 i i0 i1, fun i i0 i1 => ?_, fun s s0 s1 => ?_, fun v v0 v1 => by rw [a 5 v (by omega)]; exact g5 v v0 v1, fun v v0 v1 => by rw [a 9 v (by omega)]; exact g6 v v0 v1, by rw [a 14 0 (by omega)]; exact g7, fun i i0 i1 => by rw [a 10 i (by omega), a 11 i (by omega)]; exact g8 i i0 i1, fun y hy => by rw [fr 31 y (by omega)]; exact g9 y hy, fun q q0 q1 => by rw [a 51 q (by omega)]; exact g10 q q0 q1, by rw [a 59 0 (by omega)]; exact g11, by rw [a 71 0 (by omega)]; exact g12, fun i i0 i1 => by rw [a 50 i (by omega)]; exact g13 i i0 i1, by omega⟩
                    · by_cases hv : 200 * p ≤ i ∧ i < 200 * p + B 2 0
                      · have := c4 (i - 200 * p) (by omega) (by omega)
                        rw [show 200 * p + (i - 200 * p) = i by omega] at this
                        rw [this]
                        have := g2 (i - 200 * p) (by omega) (by omega)
                        omega
                      · rw [c4o i hv]; exact g3 i i0 i1
                    · by_cases hs : s = p
                      · subst hs
                        rw [m6]
                        refine ⟨by omega, by omega, fun _ => ⟨by rw [esg2, htre, m8]; exact he, by rw [m7, htre], by rw [htre]; exact hw⟩⟩
                      · have := g4 s s0 s1
                        rw [n6 6 s (by omega) hs]
                        refine ⟨this.1, this.2.1, fun q => PT_fr (fun i i0 i1 => c4o _ ?_) (n6 6 s (by omega) hs) (n6 7 s (by omega) hs) (n6 8 s (by omega) hs) (this.2.2 q)⟩
                        omega
                  | succ N ih =>
                    intro z Bj z0 hz i1 i2 i3
                    have j15 : Bj 15 z = B 1 z := by rw [i1 15 z (by decide), b5 15 z (by decide), tk 15 z (by omega)]; exact a15 z z0 (by omega)
                    refine r_pattern_153_ok hm ?_
                    unfold r_pattern_153
                    rw [j15]
                    refine ⟨⟨by omega, by omega⟩, ⟨by omega, by omega⟩, fun q => by omega, fun _ => ⟨z0, by omega, by omega, by omega, ih (z + 1) _ (by omega) (by omega) (fun b y q => by rw [u2_bank q]; exact i1 b y q) (fun i i0 i1' => ?_) (fun v hv => by rw [u2_idx (by omega)]; exact i3 v (by omega))⟩⟩
                    by_cases e9 : i = z
                    · subst e9; rw [u2_same]
                    · rw [u2_idx (by omega)]; exact i2 i i0 (by omega)
                exact L2 x.toNat 0 B5 (Int.le_refl _) (by omega) (fun _ _ _ => rfl) (fun i i0 i1 => by omega) (fun v _ => by rw [b5 4 v (by decide), tk 4 v (by omega)]; exact a2 4 v (by decide) (by decide) (by decide) (by decide))
              · refine R_refuse hm ⟨_, rfl, ?_⟩
                unfold r_pattern_145
                refine k4 ⟨q1, q2⟩ e gr he hle (by omega) _ (mkPr _ 3 (-1) (fun b y q => ?_) u2_same (by rw [u2_bank (by decide), tk 3 0 (by omega)]; exact a30) (by omega) (by omega))
                rw [u2_bank (by omega)]
                exact tk b y (by omega)
            · unfold r_pattern_104
              rw [u2_same]
              refine ⟨⟨by decide, by decide⟩, fun q => absurd q (by decide), fun _ => ?_⟩
              refine R_refuse hm ⟨_, rfl, ?_⟩
              unfold r_pattern_124
              refine k3 ⟨q1, q2⟩ e gr he (by omega) _ (mkPr _ 2 200 (fun b y q => ?_) u2_same (by rw [u2_bank (by decide), u2_same]) (by omega) (by omega))
              rw [u2_bank (by omega), u2_bank (by omega), u2_bank (by omega)]
              exact tk b y (by omega)
        | succ N ih =>
          intro x Bk x0 hx e1 e2 e3
          have e15 : Bk 15 x = B 1 x := by rw [e1 15 x (by decide)]; exact a15 x x0 (by omega)
          refine r_pattern_48_ok hm ?_
          unfold r_pattern_48
          rw [e15]
          refine ⟨⟨by omega, by omega⟩, ⟨by omega, by omega⟩, fun q => by omega, fun _ => ⟨x0, by omega, by omega, ih (x + 1) _ (by omega) (by omega) (fun b y q => by rw [u2_bank q]; exact e1 b y q) (fun y hy => by rw [u2_idx (by omega)]; exact e2 y hy) (fun i i0 i1 => ?_)⟩⟩
          by_cases e9 : i = x
          · subst e9; rw [u2_same]
          · rw [u2_idx e9]; exact e3 i i0 (by omega)
      exact L n.toNat 0 B2 (Int.le_refl _) (by omega) (fun _ _ _ => rfl) (fun _ _ => rfl) (fun i i0 i1 => by omega)
    refine ⟨⟨by decide, by decide⟩, fun _ => ⟨⟨by omega, by omega⟩, fun hge => ?_, fun hlt => ?_⟩, fun q => absurd q (by decide)⟩
    · rw [show min (B 2 0) 200 = 200 by omega] at main
      exact main
    · rw [show min (B 2 0) 200 = B 2 0 by omega] at main
      exact main
  · unfold r_pattern_16
    refine ⟨⟨by decide, by decide⟩, fun w => absurd rfl w, fun _ => ?_⟩
    refine qZ.mono (d := d + 1) (R_refuse hm ⟨_, rfl, ?_⟩) (by omega) (fun _ _ q => q)
    unfold r_pattern_24
    exact k1 q _ (mkPr _ 1 (-1) (fun b y q => u2_bank (by omega)) u2_same (by rw [u2_bank (by decide)]; exact a30) (by omega) (by omega))
end RPAT
