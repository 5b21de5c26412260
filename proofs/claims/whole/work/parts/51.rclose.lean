/-! THE REFERENCE CLOSES A BRACKET, READS ALL -/
section RCLOSE
variable {m : Nat} {h0 : qH} {d : Nat} {B : qB} {Q : qO → qB → Prop}
theorem nnB_oth {w l r : Int} {b : Nat} {y : Int} (h : b < 17 ∨ 25 < b) (h2 : b ≠ 28) : nnB B w l r b y = B b y := by
  unfold nnB
  rw [u2_bank (by omega), u2_bank (by omega), u2_bank (by omega), u2_bank (by omega), u2_bank (by omega), u2_bank (by omega), u2_bank (by omega), u2_bank (by omega), u2_bank (by omega)]
theorem nnB_28 {w l r : Int} : nnB B w l r 28 0 = B 28 0 + 1 := by unfold nnB; rw [u2_same]
theorem nnB_nd {w l r : Int} : nnB B w l r 17 (B 28 0) = w ∧ nnB B w l r 18 (B 28 0) = l ∧ nnB B w l r 19 (B 28 0) = r := by
  refine ⟨?_, ?_, ?_⟩ <;> simp [nnB, u2]
theorem nnB_old {w l r : Int} {b : Nat} {y : Int} (h : y ≠ B 28 0) (h2 : b ≠ 28) : nnB B w l r b y = B b y := by
  unfold nnB
  rw [u2_bank h2, u2_idx h, u2_idx h, u2_idx h, u2_idx h, u2_idx h, u2_idx h, u2_idx h, u2_idx h]
theorem R_close (hm : m + 100 < 1000000000) {at' gr lk : Int} {f : sF} {r : List sF} (hp : PO B) (hPR : PR B (at', gr, lk, f :: r)) (hCI : CI (at', gr, lk, f :: r)) (hsg : sgB B at' = 41)
    (kE : ∀ w B', sCl (sgB B) at' gr lk f r = .error w → 0 ≤ w → Er B B' w → Q (.inl none) B')
    (kO : ∀ c' B', sCl (sgB B) at' gr lk f r = .ok c' → at' < c'.1 → PR B' c' → CI c' → FrS Kp B B' → Q (.inl none) B') : qZ m h0 (d + 4) k_close 0 [some (.ref m), none, none, none] [] B Q := by
  obtain ⟨hFM, h33, h30, h26, h35, n1, n2, s1, s2⟩ := hPR
  obtain ⟨i1, i2, i3, i4, i5, i6, i7, i8, i9⟩ := hCI
  dsimp only at h33 h30 h26 n2 s2 i1 i2 i3 i4 i5 i6 i7 i8 i9 hFM
  obtain ⟨hw, g, wy, rw⟩ := f
  have hlt : at' < 200 := sg_end hp i1 (by omega)
  have h41 : B 41 0 = r.length + 1 := by rw [hFM.1, List.length_cons]; omega
  have i4' : r.length ≤ 10 := by rw [List.length_cons] at i4; omega
  refine r_close_0_ok hm ?_
  unfold r_close_0
  rw [h41, h33]
  refine ⟨⟨by omega, by omega⟩, fun q => ?_, fun q => ?_⟩
  · -- there is one around it
    cases r with
    | nil => exact absurd rfl q
    | cons f2 r2 =>
    obtain ⟨hw2, g2, wy2, rw2⟩ := f2
    generalize hr : ((hw2, g2, wy2, rw2) :: r2 : List sF) = r at *
    have hrl : r.length = r2.length + 1 := by rw [← hr, List.length_cons]
    have FM0 : FM (u2 B 33 0 (at' + 1)) ((hw, g, wy, rw) :: r) := FM_u2 hFM (by omega)
    have z28 : (u2 B 33 0 (at' + 1)) 28 0 = B 28 0 := u2_bank (by decide)
    have z29 : (u2 B 33 0 (at' + 1)) 29 0 = B 29 0 := u2_bank (by decide)
    refine R_closed hm (f := (hw, g, wy, rw)) (r := r) (by rw [z28]; omega) (by rw [z28]; omega) (by rw [u2_bank (by decide)]; exact h35) (by rw [u2_bank (by decide)]; exact h41) i4' FM0.2 (fun x B1 hEP => ⟨_, rfl, ?_⟩)
    have FM1 := FM_EP FM0 hEP
    obtain ⟨e1, e2, e3, e4, e5, e6, e7, e8⟩ := hEP
    rw [z28, z29] at e2
    rw [z28] at e5 e6
    rw [z29] at e7 e8
    rw [u2_same] at e3
    dsimp only at e1
    obtain ⟨w1, w2, w3, w4, w5, w6⟩ := i8
    obtain ⟨cw, cl⟩ := clo_wf w4 w5
    obtain ⟨bw, bl⟩ := brk_wf (hw := hw) (g := g) cw w2
    generalize hxe : clo wy rw = xe at *
    obtain ⟨x0, xN, x24, x25⟩ := nd_w e1
    have b41 : B1 41 0 = r.length + 1 := by rw [FM1.1, List.length_cons]; omega
    have b36 : B1 36 r.length = hw := FM1.2.1
    have b37 : B1 37 r.length = g := FM1.2.2.1
    have b30 : B1 30 0 = gr := by rw [e2 30 0 (by unfold StN; omega), u2_bank (by decide)]; exact h30
    have b26 : B1 26 0 = lk := by rw [e2 26 0 (by unfold StN; omega), u2_bank (by decide)]; exact h26
    have bK : FrS Kp B B1 := fun b y q => (e2 b y (Kp_StN b y q)).trans (u2_bank (by unfold Kp at q; omega))
    have eo : B1 41 0 - 1 = (r.length : Int) := by omega
    have flr : frL r = lnO wy2 + ln rw2 + frL r2 := by rw [← hr]; rfl
    have i9' : lnO wy + ln rw + frL r ≤ at' := i9
    have frn := frL_nn r
    have lkr := lkF_bd r
    have i7' : lk = (if hw = 5 ∨ hw = 6 then 1 else 0) + lkF r := i7
    -- quantifier and joining
    have n166 : ∀ (G lk' : Int) (B5 : qB), FrS Kp B1 B5 → FM B5 r → B5 33 0 = at' + 1 → B5 30 0 = gr → B5 26 0 = lk' → lk' = (if hw = 5 ∨ hw = 6 then lk - 1 else lk) → B5 35 0 = -1 → 0 ≤ B5 28 0 → B5 28 0 ≤ B1 28 0 + 2 → B5 29 0 = B1 29 0 → nd B5 (B5 28 0) (B5 29 0) (brk hw g xe) G → r_close_166 m h0 (d + 3) G B5 Q := by
      intro G lk' B5 fK hF m33 m30 m26 mlk m35 m28 m28' m29 hG
      have fKB := FrS.tr bK fK
      have hp5 : PO B5 := hp.eq (fKB 32 0 (by unfold Kp; omega)) (fun i => fKB 31 i (by unfold Kp; omega))
      have hs5 : sgB B5 = sgB B := sgB_eq (fKB 32 0 (by unfold Kp; omega)) (fun i => fKB 31 i (by unfold Kp; omega))
      have hsC : sCl (sgB B) at' gr lk (hw, g, wy, rw) r = (match sQt (sgB B) lk' (brk hw g xe) (at' + 1) with
          | .error w => .error w
          | .ok (q, a) => .ok (a, gr, lk', (hw2, g2, wy2, .add rw2 q) :: r2)) := by
        rw [← hr, ← hxe, mlk]
        rfl
      unfold r_close_166
      refine (R_rest hm (at0 := at') (a := at' + 1) (gr := gr) (lk := lk') (e := brk hw g xe) (hw := hw2) (g := g2) (wy := wy2) (rw := rw2) (r := r2) (Qz := fun o B' => o = .inl none ∧ r_close_175 m h0 (d + 3) B' Q) hp5 (by rw [hr]; exact hF) m33 m30 m26 m35 m28 (by omega) (by omega) (by omega) i1 (by omega) (by omega) i5 i6 ?_ (by rw [hr]; exact w6) (by omega) bw ?_ ?_ hG (fun w B' he hw' hE => ⟨rfl, ?_⟩) (fun q a' B' ho hP hC hK => ⟨rfl, ?_⟩)).mono (Nat.le_refl _) (fun o B' ⟨v, ho, h⟩ => ⟨v, ho, by unfold r_close_172; exact h⟩)
      · rw [hr, mlk, i7']
        split <;> omega
      · omega
      · omega
      · rw [hs5] at he
        rw [he] at hsC
        unfold r_close_175
        exact kE w B' hsC hw' ⟨hE.1, FrS.tr fKB hE.2.1, hE.2.2⟩
      · rw [hs5] at ho
        rw [ho] at hsC
        unfold r_close_175
        have := (sQt_bd bw ho).2.1
        exact kO _ B' hsC (show at' < a' by omega) hP hC (FrS.tr fKB hK)
    -- the node of the bracket
    have n90 : ∀ (G rr : Int) (B3 : qB), B3 28 0 = G + 1 → B1 28 0 ≤ G → G ≤ B1 28 0 + 1 → B3 29 0 = B1 29 0 → B3 17 G = hw → B3 18 G = x → B3 19 G = rr → (∀ b y, b ≠ 41 → b ≠ 28 → (b < 17 ∨ 25 < b ∨ y < B1 28 0) → B3 b y = B1 b y) → B3 41 0 = r.length → (hw = 4 → rr = g) → (hw = 5 ∨ hw = 6 → rr = 0) → (hw = 1 → 0 ≤ rr ∧ rr < G ∧ B3 17 rr = 11) → r_close_90 m h0 (d + 3) x hw G B3 Q := by
      intro G rr B3 m28 mG mG2 m29 m17 m18 m19 mO m41 r4 r5 r1
      have c24 : B3 24 x = wR xe := (mO 24 x (by decide) (by decide) (by omega)).trans x24
      have c25 : B3 25 x = bi (aT xe) := (mO 25 x (by decide) (by decide) (by omega)).trans x25
      have fN : FrS (NdS (B1 28 0) (B1 29 0)) B1 B3 := fun b y q => mO b y (by unfold NdS at q; omega) (by unfold NdS at q; omega) (by unfold NdS at q; omega)
      -- all told, but for the looks
      have hnd : ∀ t w, w = wR (brk hw g xe) → t = bi (aT (brk hw g xe)) → nd (u2 (u2 B3 24 G w) 25 G t) (G + 1) (B1 29 0) (brk hw g xe) G := by
        intro t w hw9 ht
        generalize hB4 : u2 (u2 B3 24 G w) 25 G t = B4
        have f4 : FrS (NdS (B1 28 0) (B1 29 0)) B1 B4 := by rw [← hB4]; exact FrS.u2 (FrS.u2 fN (by unfold NdS; omega)) (by unfold NdS; omega)
        have d17 : B4 17 G = hw := by rw [← hB4, u2_bank (by decide), u2_bank (by decide)]; exact m17
        have d18 : B4 18 G = x := by rw [← hB4, u2_bank (by decide), u2_bank (by decide)]; exact m18
        have d19 : B4 19 G = rr := by rw [← hB4, u2_bank (by decide), u2_bank (by decide)]; exact m19
        have d24 : B4 24 G = wR (brk hw g xe) := by rw [← hB4, u2_bank (by decide), u2_same]; exact hw9
        have d25 : B4 25 G = bi (aT (brk hw g xe)) := by rw [← hB4, u2_same]; exact ht
        have dx : nd B4 (G + 1) (B1 29 0) xe (B4 18 G) := by rw [d18]; exact nd_fr0 f4 (by omega) (Int.le_refl _) _ _ e1
        have d1 : hw = 1 → B4 17 rr = 11 := fun q => by rw [← hB4, u2_bank (by decide), u2_bank (by decide)]; exact (r1 q).2.2
        clear hB4
        rcases w1 with rfl | rfl | rfl | rfl
        · have hb : brk 1 g xe = .neg xe := rfl
          rw [hb] at d24 d25 ⊢
          exact ⟨by omega, by omega, d17, dx, by rw [d19]; exact (r1 rfl).1, by rw [d19]; have := (r1 rfl).2.1; omega, by rw [d19]; exact d1 rfl, d24, d25⟩
        · have hb : brk 4 g xe = .mulL g xe := rfl
          rw [hb] at d24 d25 ⊢
          have := w2 rfl
          exact ⟨by omega, by omega, by rw [d17, if_pos (by omega)], dx, by rw [d19, if_pos (by omega)]; exact r4 rfl, d24, d25⟩
        · have hb : brk 5 g xe = .mulL 0 xe := rfl
          rw [hb] at d24 d25 ⊢
          exact ⟨by omega, by omega, by rw [d17]; rfl, dx, by rw [d19]; exact r5 (Or.inl rfl), d24, d25⟩
        · have hb : brk 6 g xe = .mulL (-1) xe := rfl
          rw [hb] at d24 d25 ⊢
          exact ⟨by omega, by omega, by rw [d17]; rfl, dx, by rw [d19]; exact r5 (Or.inr rfl), d24, d25⟩
      have n144 : ∀ t w, (t = 0 ∨ t = 1) → w = wR (brk hw g xe) → t = bi (aT (brk hw g xe)) → r_close_144 m h0 (d + 3) hw G G t (u2 B3 24 G w) Q := by
        intro t w t01 hw9 ht
        have hG := hnd t w hw9 ht
        generalize hB4 : u2 (u2 B3 24 G w) 25 G t = B4 at hG
        have d28 : B4 28 0 = G + 1 := by rw [← hB4, u2_bank (by decide), u2_bank (by decide)]; exact m28
        have d29 : B4 29 0 = B1 29 0 := by rw [← hB4, u2_bank (by decide), u2_bank (by decide)]; exact m29
        have dO : ∀ b y, b ≠ 41 → b ≠ 28 → (b < 17 ∨ 25 < b) → B4 b y = B1 b y := fun b y q1 q2 q3 => by rw [← hB4, u2_bank (by omega), u2_bank (by omega)]; exact mO b y q1 q2 (by omega)
        have d41 : B4 41 0 = r.length := by rw [← hB4, u2_bank (by decide), u2_bank (by decide)]; exact m41
        have f4 : FrS (NdS (B1 28 0) (B1 29 0)) B1 B4 := by rw [← hB4]; exact FrS.u2 (FrS.u2 fN (by unfold NdS; omega)) (by unfold NdS; omega)
        have F4 : FM B4 r := by
          refine ⟨d41, ?_⟩
          rw [d28, d29]
          exact frR_fr (by omega) (Int.le_refl _) r f4 (fun b y p1 p2 p3 p4 => dO b y (by omega) (by omega) (by omega)) FM1.2.2.2.2.2
        have K4 : FrS Kp B1 B4 := fun b y q => dO b y (by unfold Kp at q; omega) (by unfold Kp at q; omega) (by unfold Kp at q; omega)
        have n156 : (hw = 5 ∨ hw = 6) → r_close_156 m h0 (d + 3) G B4 Q := by
          intro q
          unfold r_close_156
          have e26 : B4 26 0 = lk := (dO 26 0 (by decide) (by decide) (by omega)).trans b26
          rw [e26]
          refine n166 G (lk - 1) _ (FrS.u2 K4 (by unfold Kp; omega)) (FM_u2 F4 (by omega)) ?_ ?_ u2_same (by rw [if_pos q]) ?_ ?_ ?_ ?_ ?_
          · rw [u2_bank (by decide), dO 33 0 (by decide) (by decide) (by omega)]; exact e3
          · rw [u2_bank (by decide), dO 30 0 (by decide) (by decide) (by omega)]; exact b30
          · rw [u2_bank (by decide), dO 35 0 (by decide) (by decide) (by omega)]; exact e4
          · rw [u2_bank (by decide), d28]; omega
          · rw [u2_bank (by decide), d28]; omega
          · rw [u2_bank (by decide)]; exact d29
          · rw [u2_bank (by decide), u2_bank (by decide), d28, d29]
            exact nd_fr0 (FrS.u2 FrS.refl (by unfold NdS; omega)) (Int.le_refl _) (Int.le_refl _) _ _ hG
        have n166' : ¬ (hw = 5 ∨ hw = 6) → r_close_166 m h0 (d + 3) G B4 Q := by
          intro q
          refine n166 G lk B4 K4 F4 ?_ ?_ ?_ (by rw [if_neg q]) ?_ ?_ ?_ d29 ?_
          · rw [dO 33 0 (by decide) (by decide) (by omega)]; exact e3
          · rw [dO 30 0 (by decide) (by decide) (by omega)]; exact b30
          · rw [dO 26 0 (by decide) (by decide) (by omega)]; exact b26
          · rw [dO 35 0 (by decide) (by decide) (by omega)]; exact e4
          · omega
          · omega
          · rw [d28, d29]; exact hG
        unfold r_close_144
        rw [hB4]
        exact ⟨by omega, by omega, t01, ⟨by omega, by omega⟩, fun q => n156 (Or.inl q), fun q => ⟨fun q2 => n166' (by omega), fun q2 => n156 (Or.inr q2)⟩⟩
      have n112 : ∀ c, wR xe + c = wR (brk hw g xe) → r_close_112 m h0 (d + 3) x hw G G (wR xe) c B3 Q := by
        intro c hc
        have aB : aT (brk hw g xe) = (aT xe || decide (hw = 5 ∨ hw = 6)) := by
          rcases w1 with rfl | rfl | rfl | rfl
          · show aT xe = _; simp
          · have := w2 rfl
            show (aT xe || decide (g ≤ 0)) = _
            rw [decide_eq_false (by omega)]
            simp
          · show (aT xe || decide ((0 : Int) ≤ 0)) = _; simp
          · show (aT xe || decide ((-1 : Int) ≤ 0)) = _; simp
        unfold r_close_112
        rw [c25]
        refine ⟨by omega, by omega, x0, by omega, bi_R _, fun q => ?_, fun q => ⟨⟨by omega, by omega⟩, fun q5 => ?_, fun q5 => ⟨fun q6 => ?_, fun q6 => ?_⟩⟩⟩
        · unfold r_close_139
          exact n144 1 _ (Or.inr rfl) hc (by rw [aB, bi_n q]; rfl)
        · unfold r_close_139
          exact n144 1 _ (Or.inr rfl) hc (by rw [aB, decide_eq_true (Or.inl q5)]; simp [bi])
        · exact n144 0 _ (Or.inl rfl) hc (by rw [aB, bi_0 q, decide_eq_false (by omega)]; rfl)
        · unfold r_close_139
          exact n144 1 _ (Or.inr rfl) hc (by rw [aB, decide_eq_true (Or.inr q6)]; simp [bi])
      unfold r_close_90
      rw [c24]
      refine ⟨x0, by omega, ⟨by omega, by omega⟩, fun q => n112 1 ?_, fun q => n112 2 ?_⟩
      · rcases w1 with rfl | rfl | rfl | rfl
        · rfl
        · exact absurd rfl q
        · rfl
        · rfl
      · subst q
        have := w2 rfl
        show wR xe + 2 = wR xe + (if 1 ≤ g then 2 else 1)
        rw [if_pos (by omega)]
    unfold r_close_32
    rw [eo, b36, b37]
    have y28 : (u2 B1 41 0 r.length) 28 0 = B1 28 0 := u2_bank (by decide)
    refine ⟨by omega, by omega, ⟨by omega, by omega⟩, fun q1 => ?_, fun q1 => ?_⟩
    · refine qZ.mono (d := d + 1) (R_newNode hm (by rw [y28]; omega) (by rw [y28]; omega) ⟨_, rfl, ?_⟩) (by omega) (fun _ _ q => q)
      rw [y28]
      obtain ⟨t1, t2, t3⟩ := nnB_nd (B := u2 B1 41 0 r.length) (w := hw) (l := x) (r := g)
      rw [y28] at t1 t2 t3
      refine n90 (B1 28 0) g _ (by rw [nnB_28, y28]) (Int.le_refl _) (by omega) (by rw [nnB_oth (by omega) (by decide), u2_bank (by decide)]) t1 t2 t3 (fun b y p1 p2 p3 => ?_) (by rw [nnB_oth (by omega) (by decide), u2_same]) (fun _ => rfl) (fun q => w3 (by omega)) (fun q => absurd q q1)
      by_cases hb : b < 17 ∨ 25 < b
      · rw [nnB_oth hb p2, u2_bank p1]
      · rw [nnB_old (by rw [y28]; omega) p2, u2_bank p1]
    · refine qZ.mono (d := d + 1) (R_newNode hm (by rw [y28]; omega) (by rw [y28]; omega) ⟨_, rfl, ?_⟩) (by omega) (fun _ _ q => q)
      rw [y28]
      unfold r_close_69
      generalize hB3 : nnB (u2 B1 41 0 r.length) 11 0 0 = B3
      have v28 : B3 28 0 = B1 28 0 + 1 := by rw [← hB3, nnB_28, y28]
      have v17 : B3 17 (B1 28 0) = 11 := by rw [← hB3, ← y28]; exact nnB_nd.1
      have v29 : B3 29 0 = B1 29 0 := by rw [← hB3, nnB_oth (by omega) (by decide), u2_bank (by decide)]
      have v41 : B3 41 0 = r.length := by rw [← hB3, nnB_oth (by omega) (by decide), u2_same]
      have vO : ∀ b y, b ≠ 41 → b ≠ 28 → (b < 17 ∨ 25 < b ∨ y < B1 28 0) → B3 b y = B1 b y := by
        intro b y p1 p2 p3
        rw [← hB3]
        by_cases hb : b < 17 ∨ 25 < b
        · rw [nnB_oth hb p2, u2_bank p1]
        · rw [nnB_old (by rw [y28]; omega) p2, u2_bank p1]
      refine qZ.mono (d := d + 1) (R_newNode hm (by omega) (by omega) ⟨_, rfl, ?_⟩) (by omega) (fun _ _ q => q)
      rw [v28]
      unfold r_close_72
      obtain ⟨t1, t2, t3⟩ := nnB_nd (B := B3) (w := 1) (l := x) (r := B1 28 0)
      rw [v28] at t1 t2 t3
      refine n90 (B1 28 0 + 1) (B1 28 0) _ (by rw [nnB_28, v28]) (by omega) (by omega) (by rw [nnB_oth (by omega) (by decide), v29]) (by rw [t1, q1]) t2 t3 (fun b y p1 p2 p3 => ?_) (by rw [nnB_oth (by omega) (by decide), v41]) (fun q => by omega) (fun q => by omega) (fun _ => ⟨by omega, by omega, ?_⟩)
      · by_cases hb : b < 17 ∨ 25 < b
        · rw [nnB_oth hb p2]; exact vO b y p1 p2 p3
        · rw [nnB_old (by rw [v28]; omega) p2]; exact vO b y p1 p2 p3
      · rw [nnB_old (by rw [v28]; omega) (by decide)]; exact v17
  · refine qZ.mono (d := d + 1) (R_wrong hm h35 ⟨_, rfl, ?_⟩) (by omega) (fun _ _ q => q)
    unfold r_close_16
    have hr0 : r = [] := by
      cases r with
      | nil => rfl
      | cons a b => rw [List.length_cons] at q; omega
    subst hr0
    exact kE at' _ rfl i1 (Er_mk FrS.refl (by omega) (by omega) (by omega))
end RCLOSE
