/-! THE REFERENCE'S CALLS: replace, all of it -/
section RREPL2
variable {m : Nat} {h0 : qH} {d : Nat} {B : qB} {Q : qO → qB → Prop}
theorem MD_75 {w : List Int} (h : MD B w) : R32 (B 75 0) ∧ (B 75 0 = 0 ↔ (w.length : Int) ≤ 1000) := by
  obtain ⟨h1, h2, h3, h4⟩ := h
  rw [h3]
  by_cases q : (w.length : Int) ≤ 1000
  · rw [if_pos q]; exact ⟨⟨by decide, by decide⟩, ⟨fun _ => q, fun _ => rfl⟩⟩
  · rw [if_neg q]; exact ⟨⟨by decide, by decide⟩, ⟨fun w => absurd w (by decide), fun w => absurd w q⟩⟩
theorem NG_fr2 {B B' : qB} {e : qT} (h : NGood B e) (f : ∀ b y, (b = 5 ∨ b = 42 ∨ b = 45 ∨ b = 54 ∨ b = 57 ∨ b = 58 ∨ b = 59 ∨ b = 67) → B' b y = B b y) : NGood B' e := by
  obtain ⟨G, gm, g1, g2, g3⟩ := h
  have s57 : B' 57 0 = B 57 0 := f 57 0 (by omega)
  have s59 : B' 59 0 = B 59 0 := f 59 0 (by omega)
  have st : tB B' = tB B := by
    funext p
    unfold tB
    rw [f 58 0 (by omega), f 5 _ (by omega)]
  refine ⟨G, gm, by rw [s57, s59, st]; exact g1, fun pc L q => by rw [f 42 pc (by omega)]; exact g2 pc L q, fun pc L p' u' hG kr hf c => ?_⟩
  have s45 : B' 45 pc = B 45 pc := f 45 pc (by omega)
  have s54 : ∀ z, B' 54 z = B 54 z := fun z => f 54 z (by omega)
  have kr' : Kr B pc p' u' := by
    unfold Kr dpt at kr ⊢
    rw [s57, s45, s54, s54] at kr
    exact kr
  have ek : kN B' pc u' p' = kN B pc u' p' := by unfold kN; rw [s57, s45, s54]
  rw [ek, fbit_eq (B := B) (fun z => f 67 z (by omega))] at hf
  exact g3 pc L p' u' hG kr' hf c
set_option maxHeartbeats 4000000 in
theorem R_replace (hm : m + 100 < 1000000000) {p t : Int} (hp : R32 p) (ht : R32 t) (hO : OI B)
    (k1 : ¬ ((0 ≤ p ∧ p ≤ 7) ∧ 0 ≤ t ∧ t ≤ 3) → ∀ B', Pr B B' 1 (-1) → Q (.inl (some (iv 0))) B')
    (k2 : ((0 ≤ p ∧ p ≤ 7) ∧ 0 ≤ t ∧ t ≤ 3) → B 6 p = 0 → ∀ B', Pr B B' 2 (-1) → Q (.inl (some (iv 0))) B')
    (k5 : ((0 ≤ p ∧ p ≤ 7) ∧ 0 ≤ t ∧ t ≤ 3) → ¬ B 6 p = 0 → 300 < B 9 t → ∀ B', Pr B B' 5 (-1) → Q (.inl (some (iv 0))) B')
    (k4 : ((0 ≤ p ∧ p ≤ 7) ∧ 0 ≤ t ∧ t ≤ 3) → ¬ B 6 p = 0 → B 9 t ≤ 300 → ∀ w, vld (B 1) (B 2 0) 1201 0 = some w → ∀ B', Pr B B' 4 w → Q (.inl (some (iv 0))) B')
    (k3 : ((0 ≤ p ∧ p ≤ 7) ∧ 0 ≤ t ∧ t ≤ 3) → ¬ B 6 p = 0 → B 9 t ≤ 300 → vld (B 1) (B 2 0) 1201 0 = none → 1000 < ((rpl (B 9 t) (txB B t) (tre B p) (B 1) (B 2 0) 1002 0 0).length : Int) → ∀ B', Pr B B' 3 (-1) → Q (.inl (some (iv 0))) B')
    (k6 : ((0 ≤ p ∧ p ≤ 7) ∧ 0 ≤ t ∧ t ≤ 3) → ¬ B 6 p = 0 → B 9 t ≤ 300 → vld (B 1) (B 2 0) 1201 0 = none → ∀ l w, l = allM (B 9 t) (txB B t) (tre B p) 1002 0 → w = rpl (B 9 t) (txB B t) (tre B p) (B 1) (B 2 0) 1002 0 0 → (w.length : Int) ≤ 1000 → ∀ B', OI B' → B' 0 0 = 0 → B' 2 0 = 0 → B' 3 0 = -1 → (∀ b y, Pb b y → b ≠ 2 → b ≠ 3 → b ≠ 5 → b ≠ 9 → b ≠ 10 → b ≠ 11 → b ≠ 14 → B' b y = B b y) → B' 14 0 = l.length → (∀ i : Int, 0 ≤ i → i < l.length → B' 10 i = bgn l i ∧ B' 11 i = edn l i) → B' 9 t = w.length → (∀ s, s ≠ t → B' 9 s = B 9 s) → (∀ i : Int, 0 ≤ i → i < w.length → B' 5 (1000 * t + i) = wi w i) → (∀ x, ¬ (1000 * t ≤ x ∧ x < 1000 * t + w.length) → B' 5 x = B 5 x) → Q (.inl (some (iv w.length))) B') : qZ m h0 (d + 12) k_replace 0 [some (.ref m), some (iv p), some (iv t), none, none, none] [] B Q := by
  have hO0 := hO
  obtain ⟨g1, g2, g3, g4, g5, g6, g7, g8, g9, g10, g11, g12, g13, g14⟩ := hO
  refine r_replace_0_ok hm ?_
  unfold r_replace_0
  refine qZ.mono (d := d + 1) (R_take hm hO0 (fun B1 hT => ⟨rfl, ?_⟩)) (by omega) (fun _ _ q => q)
  obtain ⟨t1, t2, t3, t4⟩ := hT
  unfold r_replace_4
  have a2 : ∀ b y, b ≠ 2 → b ≠ 3 → b ≠ 15 → b ≠ 16 → (u2 B1 3 0 (-1)) b y = B b y := fun b y q1 q2 q3 q4 => by rw [u2_bank q2]; exact t1 b y q1 q3 q4
  have a20 : (u2 B1 3 0 (-1)) 2 0 = 0 := by rw [u2_bank (by decide)]; exact t2
  have a30 : (u2 B1 3 0 (-1)) 3 0 = -1 := u2_same
  have a16 : (u2 B1 3 0 (-1)) 16 0 = B 2 0 := by rw [u2_bank (by decide)]; exact t3
  have a15 : ∀ i, 0 ≤ i → i < B 2 0 → (u2 B1 3 0 (-1)) 15 i = B 1 i := fun i i0 i1 => by rw [u2_bank (by decide)]; exact t4 i i0 i1
  generalize u2 B1 3 0 (-1) = B2 at *
  have mkPr : ∀ (B' : qB) (thr w : Int), (∀ b y, (Pb b y ∧ b ≠ 3) ∨ (b = 31 ∧ y < 0) ∨ b = 59 → B' b y = B2 b y) → MR B' → B' 0 0 = thr → B' 3 0 = w → -1 ≤ w → w ≤ 5000 → Pr B B' thr w := by
    intro B' thr w f hMx e0 e3 w0 w1
    have e2 : B' 2 0 = 0 := (f 2 0 (by unfold Pb; omega)).trans a20
    have pb : ∀ b y, (Pb b y ∧ b ≠ 2 ∧ b ≠ 3) ∨ (b = 31 ∧ y < 0) ∨ b = 59 → B' b y = B b y := fun b y q => by
      rw [f b y (by unfold Pb at q ⊢; omega)]
      exact a2 b y (by unfold Pb at q; omega) (by unfold Pb at q; omega) (by unfold Pb at q; omega) (by unfold Pb at q; omega)
    refine ⟨?_, e0, e2, e3, fun b y q n2 n3 => pb b y (Or.inl ⟨q, n2, n3⟩)⟩
    have a : ∀ b y, (b = 1 ∨ (4 ≤ b ∧ b ≤ 11) ∨ b = 14 ∨ b = 50 ∨ b = 71) → B' b y = B b y := fun b y q => pb b y (Or.inl ⟨by unfold Pb; omega, by omega, by omega⟩)
    refine OI_gen hO0 (fun b y q => ?_) (by omega) (fun i i0 i1 => by rw [a 1 i (by omega)]; exact g2 i i0 i1) (fun x x0 x1 => by rw [a 5 x (by omega)]; exact g5 x x0 x1) (fun x x0 x1 => by rw [a 9 x (by omega)]; exact g6 x x0 x1) (by rw [a 14 0 (by omega)]; exact g7) (fun i i0 i1 => by rw [a 10 i (by omega), a 11 i (by omega)]; exact g8 i i0 i1) hMx (by rw [a 71 0 (by omega)]; exact g12) (fun i i0 i1 => by rw [a 50 i (by omega)]; exact g13 i i0 i1) (by omega)
    rcases q with q | q | q | q | q | q
    · exact a b y (by omega)
    · exact a b y (by omega)
    · exact a b y (by omega)
    · exact a b y (by omega)
    · exact pb b y (by omega)
    · exact pb b y (by omega)
  have M2 : MR B2 := fun q q0 q1 => by rw [a2 51 q (by decide) (by decide) (by decide) (by decide)]; exact g10 q q0 q1
  have simp0 : ∀ (thr : Int), Pr B (u2 B2 0 0 thr) thr (-1) := fun thr => mkPr _ thr (-1) (fun b y q => u2_bank (by unfold Pb at q; omega)) (fun q q0 q1 => by rw [u2_bank (by decide)]; exact M2 q q0 q1) u2_same (by rw [u2_bank (by decide)]; exact a30) (by omega) (by omega)
  have ref : ¬ ((0 ≤ p ∧ p ≤ 7) ∧ 0 ≤ t ∧ t ≤ 3) → r_replace_28 m h0 (d + 11) B2 Q := by
    intro q
    unfold r_replace_28
    refine qZ.mono (d := d + 1) (R_refuse hm ⟨_, rfl, ?_⟩) (by omega) (fun _ _ q => q)
    unfold r_replace_33
    exact k1 q _ (simp0 1)
  refine qZ.mono (d := d + 1) (R_in2 hm hp ⟨by decide, by decide⟩ ⟨by decide, by decide⟩ (fun q1 q2 => ⟨_, rfl, ?_⟩) (fun q => ⟨_, rfl, ?_⟩)) (by omega) (fun _ _ q => q)
  · unfold r_replace_16
    refine ⟨⟨by decide, by decide⟩, fun q => absurd q (by decide), fun _ => ?_⟩
    refine qZ.mono (d := d + 1) (R_in2 hm ht ⟨by decide, by decide⟩ ⟨by decide, by decide⟩ (fun q3 q4 => ⟨_, rfl, ?_⟩) (fun q => ⟨_, rfl, ?_⟩)) (by omega) (fun _ _ q => q)
    · have hr : ((0 ≤ p ∧ p ≤ 7) ∧ 0 ≤ t ∧ t ≤ 3) := ⟨⟨q1, q2⟩, q3, q4⟩
      have hpp := g4 p q1 (by omega)
      have hn := g6 t q3 (by omega)
      have b6 : B2 6 p = B 6 p := a2 6 p (by decide) (by decide) (by decide) (by decide)
      have b9 : B2 9 t = B 9 t := a2 9 t (by decide) (by decide) (by decide) (by decide)
      unfold r_replace_25
      rw [b6, b9]
      refine ⟨⟨by decide, by decide⟩, fun _ => ⟨q1, by omega, ⟨by omega, by omega⟩, fun h6 => ⟨q3, by omega, ⟨by omega, by omega⟩, fun hle => ?_, fun hgt => ?_⟩, fun h6 => ?_⟩, fun q => absurd q (by decide)⟩
      · have hPT := hpp.2.2 (by omega)
        -- all good: the search
        have main : vld (B 1) (B 2 0) 1201 0 = none → qZ m h0 (d + 11) k_prepare 0 [some (.ref m), some (iv p), some (iv t)] [] B2 (fun o B' => o = .inl none ∧ r_replace_172 m h0 (d + 11) t B' Q) := by
          intro hv
          have ef : sgF (pB B2 p) (B2 6 p - 1) = sgF (pB B p) (B 6 p - 1) := (tre_fr (fun i _ _ => a2 4 _ (by decide) (by decide) (by decide) (by decide)) b6).1
          refine qZ.mono (d := d + 9) (R_prepare hm (e := tre B p) (gr := B 8 p) (t := t) q1 (by omega) (by rw [b6]; omega) (by rw [b6]; exact hpp.2.1) (fun i i0 i1 => by rw [a2 4 i (by decide) (by decide) (by decide) (by decide)]; exact g3 i i0 i1) (fun y hy => by rw [a2 31 y (by decide) (by decide) (by decide) (by decide)]; exact g9 y hy) (by rw [ef]; exact hPT.1) hPT.2.2 q3 (by omega) (by rw [b9]; exact hn.1) (by rw [b9]; exact hn.2) (fun x x0 x1 => by rw [a2 5 x (by decide) (by decide) (by decide) (by decide)]; exact g5 x x0 x1) (fun B3 pre clr e57 e58 fr => ⟨rfl, ?_⟩)) (by omega) (fun _ _ q => q)
          rw [b9] at e57
          unfold r_replace_172
          generalize hall : allM (B 9 t) (txB B t) (tre B p) 1002 0 = all at *
          generalize htot : rpl (B 9 t) (txB B t) (tre B p) (B 1) (B 2 0) 1002 0 0 = tot at *
          -- what holds of every memory on the way
          have tail : ∀ (N : Nat) (i : Int) (Bk : qB) (w' W : List Int) (done : List (Int × (Int × qCp))), 0 ≤ i → i ≤ 1001 → (B 9 t - i).toNat = N → (∀ b y, Pb b y ∨ b = 15 ∨ b = 16 ∨ (b = 31 ∧ y < 0) ∨ b = 59 → Bk b y = B2 b y) → MR Bk → Bk 57 0 = B 9 t → Bk 58 0 = 1000 * t → MD Bk w' → w' ++ sgm (txB B t) N i = W → ((W.length : Int) ≤ 1000 → W = tot ∧ done = all) → (1000 < (W.length : Int) → 1000 < (tot.length : Int)) → Bk 72 0 = done.length → (done.length : Int) ≤ 1001 → (∀ j : Int, 0 ≤ j → j < done.length → Bk 12 j = bgn done j ∧ Bk 13 j = edn done j) → (∀ j : Int, 0 ≤ j → j < done.length → 0 ≤ bgn done j ∧ bgn done j ≤ 1000 ∧ 0 ≤ edn done j ∧ edn done j ≤ 1000) → qZ m h0 (d + 12) k_replace 280 [some (.ref m), none, some (iv t), none, none, some (iv i)] [] Bk Q := by
            intro N
            induction N with
            | zero =>
              intro i Bk w' W done i0 i1 hN kP hMk k57 k58 hMD hW hA hB k72 hdl k12 kR
              rw [show sgm (txB B t) 0 i = [] from rfl, List.append_nil] at hW
              subst hW
              have h75 := MD_75 hMD
              refine r_replace_280_ok hm ?_
              unfold r_replace_280
              rw [k57]
              refine ⟨⟨by omega, by omega⟩, ⟨by omega, by omega⟩, fun _ => ⟨h75.1, fun z => ?_, fun z => ?_⟩, fun q => by omega⟩
              · have hle2 := h75.2.mp z
                obtain ⟨eW, eD⟩ := hA hle2
                have c : ∀ b y, b ≠ 0 → (u2 Bk 0 0 0) b y = Bk b y := fun b y q => u2_bank q
                have c00 : (u2 Bk 0 0 0) 0 0 = 0 := u2_same
                generalize u2 Bk 0 0 0 = Bc at *
                refine qZ.mono (d := d + 1) (R_keepFound hm (by rw [c 72 0 (by decide)]; omega) (by rw [c 72 0 (by decide)]; omega) (fun By y1 y2 y3 y4 => ⟨rfl, ?_⟩)) (by omega) (fun _ _ q => q)
                rw [c 72 0 (by decide), k72] at y2 y3 y4
                unfold r_replace_327
                have y74 : By 74 0 = w'.length := by rw [y1 74 0 (by decide) (by decide) (by decide), c 74 0 (by decide), hMD.2.1]; omega
                have y73 : ∀ j : Int, 0 ≤ j → j < w'.length → By 73 j = wi w' j := fun j j0 j1 => by rw [y1 73 j (by decide) (by decide) (by decide), c 73 j (by decide)]; exact hMD.2.2.2 j j0 j1 (by omega)
                have wby : ∀ j : Int, 0 ≤ j → j < w'.length → 0 ≤ wi w' j ∧ wi w' j < 256 := by
                  intro j j0 j1
                  unfold wi
                  have hj : j.toNat < w'.length := by omega
                  rw [List.getElem?_eq_getElem hj]
                  exact hMD.1 _ (List.getElem_mem hj)
                have C : ∀ (M : Nat) (x : Int) (Bj : qB), 0 ≤ x → x + M = w'.length → (∀ b y, b ≠ 5 → Bj b y = By b y) → (∀ j : Int, 0 ≤ j → j < x → Bj 5 (1000 * t + j) = wi w' j) → (∀ v, ¬ (1000 * t ≤ v ∧ v < 1000 * t + x) → Bj 5 v = B 5 v) → qZ m h0 (d + 12) k_replace 330 [some (.ref m), none, some (iv t), none, none, some (iv x)] [] Bj Q := by
                  intro M
                  induction M with
                  | zero =>
                    intro x Bj x0 hx e1 e2 e3
                    have e74 : Bj 74 0 = w'.length := (e1 74 0 (by decide)).trans y74
                    refine r_replace_330_ok hm ?_
                    unfold r_replace_330
                    rw [e74]
                    refine ⟨⟨by omega, by omega⟩, ⟨by omega, by omega⟩, fun _ => ⟨q3, by omega, ?_⟩, fun q => by omega⟩
                    have al : ∀ b y, b ≠ 5 → b ≠ 9 → (u2 Bj 9 t w'.length) b y = By b y := fun b y n1 n2 => by rw [u2_bank n2]; exact e1 b y n1
                    have l9 : (u2 Bj 9 t w'.length) 9 t = w'.length := u2_same
                    have l9o : ∀ s, s ≠ t → (u2 Bj 9 t w'.length) 9 s = By 9 s := fun s hs => by rw [u2_idx hs]; exact e1 9 s (by decide)
                    have l5 : ∀ v, (u2 Bj 9 t w'.length) 5 v = Bj 5 v := fun v => u2_bank (by decide)
                    generalize u2 Bj 9 t w'.length = Bz at *
                    have pb : ∀ b y, Pb b y ∨ (b = 31 ∧ y < 0) ∨ b = 59 → b ≠ 5 → b ≠ 9 → b ≠ 10 → b ≠ 11 → b ≠ 14 → Bz b y = B2 b y := fun b y q n5 n9 n10 n11 n14 => by rw [al b y n5 n9, y1 b y n10 n11 n14, c b y (by unfold Pb at q; omega)]; exact kP b y (by unfold Pb at q ⊢; omega)
                    have pb2 : ∀ b y, Pb b y ∨ (b = 31 ∧ y < 0) ∨ b = 59 → b ≠ 2 → b ≠ 3 → b ≠ 5 → b ≠ 9 → b ≠ 10 → b ≠ 11 → b ≠ 14 → Bz b y = B b y := fun b y q n2 n3 n5 n9 n10 n11 n14 => by rw [pb b y q n5 n9 n10 n11 n14]; exact a2 b y n2 n3 (by unfold Pb at q; omega) (by unfold Pb at q; omega)
                    have z20 : Bz 2 0 = 0 := (pb 2 0 (by unfold Pb; omega) (by decide) (by decide) (by decide) (by decide) (by decide)).trans a20
                    have z30 : Bz 3 0 = -1 := (pb 3 0 (by unfold Pb; omega) (by decide) (by decide) (by decide) (by decide) (by decide)).trans a30
                    have z14 : Bz 14 0 = done.length := (al 14 0 (by decide) (by decide)).trans y2
                    have v10 : ∀ j : Int, 0 ≤ j → j < done.length → Bz 10 j = bgn done j ∧ Bz 11 j = edn done j := fun j j0 j1 => by
                      have h9 := y3 j j0 j1
                      rw [al 10 j (by decide) (by decide), al 11 j (by decide) (by decide), h9.1, h9.2, c 12 j (by decide), c 13 j (by decide)]
                      exact k12 j j0 j1
                    have z9 : ∀ s, s ≠ t → Bz 9 s = B 9 s := fun s hs => by rw [l9o s hs, y1 9 s (by decide) (by decide) (by decide), c 9 s (by decide), kP 9 s (by unfold Pb; omega)]; exact a2 9 s (by decide) (by decide) (by decide) (by decide)
                    have z5 : ∀ j : Int, 0 ≤ j → j < w'.length → Bz 5 (1000 * t + j) = wi w' j := fun j j0 j1 => (l5 _).trans (e2 j j0 (by omega))
                    have z5o : ∀ v, ¬ (1000 * t ≤ v ∧ v < 1000 * t + w'.length) → Bz 5 v = B 5 v := fun v hv => (l5 v).trans (e3 v (by omega))
                    refine k6 hr h6 hle hv done w' eD eW hle2 Bz ?_ (by rw [al 0 0 (by decide) (by decide), y1 0 0 (by decide) (by decide) (by decide)]; exact c00) z20 z30 (fun b y q n2 n3 n5 n9 n10 n11 n14 => pb2 b y (Or.inl q) n2 n3 n5 n9 n10 n11 n14) z14 v10 l9 z9 z5 z5o
                    have a : ∀ b y, (b = 1 ∨ b = 4 ∨ b = 6 ∨ b = 7 ∨ b = 8 ∨ b = 50 ∨ b = 71) → Bz b y = B b y := fun b y q => pb2 b y (by unfold Pb; omega) (by omega) (by omega) (by omega) (by omega) (by omega) (by omega) (by omega)
                    refine OI_gen hO0 (fun b y q => ?_) (by omega) (fun i i0 i1 => by rw [a 1 i (by omega)]; exact g2 i i0 i1) (fun v v0 v1 => ?_) (fun s s0 s1 => ?_) (by rw [z14]; omega) (fun j j0 j1 => ?_) (fun q q0 q1 => by rw [al 51 q (by decide) (by decide), y1 51 q (by decide) (by decide) (by decide), c 51 q (by decide)]; exact hMk q q0 q1) (by rw [a 71 0 (by omega)]; exact g12) (fun i i0 i1 => by rw [a 50 i (by omega)]; exact g13 i i0 i1) (by omega)
                    · rcases q with q | q | q | q | q | q
                      · exact a b y (by omega)
                      · exact a b y (by omega)
                      · exact a b y (by omega)
                      · exact a b y (by omega)
                      · exact pb2 b y (by omega) (by omega) (by omega) (by omega) (by omega) (by omega) (by omega) (by omega)
                      · exact pb2 b y (by omega) (by omega) (by omega) (by omega) (by omega) (by omega) (by omega) (by omega)
                    · by_cases hv2 : 1000 * t ≤ v ∧ v < 1000 * t + w'.length
                      · have h9 := z5 (v - 1000 * t) (by omega) (by omega)
                        rw [show 1000 * t + (v - 1000 * t) = v by omega] at h9
                        rw [h9]
                        exact wby _ (by omega) (by omega)
                      · rw [z5o v hv2]; exact g5 v v0 v1
                    · by_cases hs : s = t
                      · subst hs; rw [l9]; omega
                      · rw [z9 s hs]; exact g6 s s0 s1
                    · by_cases hj : j < done.length
                      · have h9 := v10 j j0 hj
                        have h10 := kR j j0 hj
                        rw [h9.1, h9.2]
                        omega
                      · have h9 := y4 j (by omega)
                        rw [al 10 j (by decide) (by decide), al 11 j (by decide) (by decide), h9.1, h9.2, c 10 j (by decide), c 11 j (by decide), kP 10 j (by unfold Pb; omega), kP 11 j (by unfold Pb; omega), a2 10 j (by decide) (by decide) (by decide) (by decide), a2 11 j (by decide) (by decide) (by decide) (by decide)]
                        exact g8 j j0 j1
                  | succ M ih2 =>
                    intro x Bj x0 hx e1 e2 e3
                    have e74 : Bj 74 0 = w'.length := (e1 74 0 (by decide)).trans y74
                    have e73 : Bj 73 x = wi w' x := (e1 73 x (by decide)).trans (y73 x x0 (by omega))
                    refine r_replace_330_ok hm ?_
                    unfold r_replace_330
                    rw [e74, e73]
                    refine ⟨⟨by omega, by omega⟩, ⟨by omega, by omega⟩, fun q => by omega, fun _ => ⟨x0, by omega, by omega, by omega, ih2 (x + 1) _ (by omega) (by omega) (fun b y q => by rw [u2_bank q]; exact e1 b y q) (fun j j0 j1 => ?_) (fun v hv => by rw [u2_idx (by omega)]; exact e3 v (by omega))⟩⟩
                    by_cases e9 : j = x
                    · subst e9; rw [u2_same]
                    · rw [u2_idx (by omega)]; exact e2 j j0 (by omega)
                refine C w'.length 0 By (Int.le_refl _) (by omega) (fun _ _ _ => rfl) (fun j j0 j1 => by omega) (fun v _ => ?_)
                rw [y1 5 v (by decide) (by decide) (by decide), c 5 v (by decide), kP 5 v (by unfold Pb; omega)]
                exact a2 5 v (by decide) (by decide) (by decide) (by decide)
              · refine qZ.mono (d := d + 1) (R_refuse hm ⟨_, rfl, ?_⟩) (by omega) (fun _ _ q => q)
                unfold r_replace_317
                have hgt2 : ¬ (w'.length : Int) ≤ 1000 := fun w => z (h75.2.mpr w)
                exact k3 hr h6 hle hv (hB (by omega)) _ (mkPr _ 3 (-1) (fun b y q => by rw [u2_bank (by unfold Pb at q; omega)]; exact kP b y (by unfold Pb at q ⊢; omega)) (fun q q0 q1 => by rw [u2_bank (by decide)]; exact hMk q q0 q1) u2_same (by rw [u2_bank (by decide), kP 3 0 (by unfold Pb; omega)]; exact a30) (by omega) (by omega))
            | succ N ih =>
              intro i Bk w' W done i0 i1 hN kP hMk k57 k58 hMD hW hA hB k72 hdl k12 kR
              refine r_replace_280_ok hm ?_
              unfold r_replace_280
              rw [k57]
              refine ⟨⟨by omega, by omega⟩, ⟨by omega, by omega⟩, fun q => by omega, fun _ => ?_⟩
              refine qZ.mono (d := d + 1) (R_byteAt hm (by rw [k58]; omega) (by rw [k58]; omega) ⟨_, rfl, ?_⟩) (by omega) (fun _ _ q => q)
              have u5 : Bk 5 (Bk 58 0 + i) = txB B t i := by rw [k58, kP 5 _ (by unfold Pb; omega)]; exact a2 5 _ (by decide) (by decide) (by decide) (by decide)
              have hb := g5 (1000 * t + i) (by omega) (by omega)
              rw [u5]
              unfold r_replace_296
              refine qZ.mono (d := d + 1) (R_say hm hMD hb.1 hb.2 (fun B' f3 hM3 => ⟨rfl, ?_⟩)) (by omega) (fun _ _ q => q)
              unfold r_replace_299
              have s : ∀ b y, b ≤ 72 → B' b y = Bk b y := fun b y q => f3 b y (by unfold Sy; omega)
              refine ih (i + 1) B' (w' ++ [txB B t i]) W done (by omega) (by omega) (by omega) (fun b y q => (s b y (by unfold Pb at q; omega)).trans (kP b y q)) (fun q q0 q1 => by rw [s 51 q (by decide)]; exact hMk q q0 q1) ((s 57 0 (by decide)).trans k57) ((s 58 0 (by decide)).trans k58) hM3 (by rw [← hW, List.append_assoc]; rfl) hA hB ((s 72 0 (by decide)).trans k72) hdl (fun j j0 j1 => by rw [s 12 j (by decide), s 13 j (by decide)]; exact k12 j j0 j1) kR
          have L : ∀ (f : Nat) (z bh : Int) (w' : List Int) (done : List (Int × (Int × qCp))) (Bk : qB), 0 ≤ z → z ≤ 1001 → 0 ≤ bh → bh ≤ B 9 t → bh ≤ z → done ++ allM (B 9 t) (txB B t) (tre B p) f z = all → w' ++ rpl (B 9 t) (txB B t) (tre B p) (B 1) (B 2 0) f z bh = tot → B 9 t + 1 - z < f → 0 < f → (done.length : Int) ≤ z → PRE Bk (tre B p) → NGood Bk (tre B p) → (∀ b y, Pb b y ∨ b = 15 ∨ b = 16 ∨ (b = 31 ∧ y < 0) ∨ b = 59 → Bk b y = B2 b y) → MR Bk → Bk 57 0 = B 9 t → Bk 58 0 = 1000 * t → MD Bk w' → Bk 72 0 = done.length → (∀ j : Int, 0 ≤ j → j < done.length → Bk 12 j = bgn done j ∧ Bk 13 j = edn done j) → (∀ j : Int, 0 ≤ j → j < done.length → 0 ≤ bgn done j ∧ bgn done j ≤ 1000 ∧ 0 ≤ edn done j ∧ edn done j ≤ 1000) → qZ m h0 (d + 12) k_replace 192 [some (.ref m), none, some (iv t), some (iv z), some (iv bh), none] [] Bk Q := by
            intro f
            induction f with
            | zero => intro z bh w' done Bk z0 z1 c0 c1 c2 hl ht2 hf hf0; omega
            | succ f ih =>
              intro z bh w' done Bk z0 z1 c0 c1 c2 hl ht2 hf hf0 hdz pk nk kP hMk k57 k58 hMD k72 k12 kR
              have kt : tB Bk = txB B t := tB_tx (fun y => (kP 5 y (by unfold Pb; omega)).trans (a2 5 y (by decide) (by decide) (by decide) (by decide))) k58
              have hun : allM (B 9 t) (txB B t) (tre B p) (f + 1) z = (match fstM (B 9 t) (txB B t) (tre B p) 0 (B 9 t + 1 - z).toNat z with
                | none => []
                | some (b, o) => (b, o) :: allM (B 9 t) (txB B t) (tre B p) f (if o.1 = b then o.1 + 1 else o.1)) := rfl
              have hur : rpl (B 9 t) (txB B t) (tre B p) (B 1) (B 2 0) (f + 1) z bh = (match fstM (B 9 t) (txB B t) (tre B p) 0 (B 9 t + 1 - z).toNat z with
                | none => sgm (txB B t) (B 9 t - bh).toNat bh
                | some (b, o) => sgm (txB B t) (b - bh).toNat bh ++ (sbs (txB B t) (B 1) (B 2 0) (grp b o) 1201 0 ++ rpl (B 9 t) (txB B t) (tre B p) (B 1) (B 2 0) f (if o.1 = b then o.1 + 1 else o.1) o.1)) := rfl
              have h75 := MD_75 hMD
              -- the end: no match is left
              have fin : ∀ Bx, fstM (B 9 t) (txB B t) (tre B p) 0 (B 9 t + 1 - z).toNat z = none → (∀ b y, SB b y → Bx b y = Bk b y) → MR Bx → r_replace_276 m h0 (d + 11) t bh Bx Q := by
                intro Bx hn fx hMx
                rw [hun, hn] at hl
                rw [hur, hn] at ht2
                unfold r_replace_276
                refine tail (B 9 t - bh).toNat bh Bx w' tot done c0 (by omega) rfl (fun b y q => (fx b y (by unfold Pb at q; unfold SB; omega)).trans (kP b y q)) hMx ((fx 57 0 (by unfold SB; omega)).trans k57) ((fx 58 0 (by unfold SB; omega)).trans k58) (MD_fr hMD (fun b y q => fx b y (by unfold SB; omega))) ht2 (fun _ => ⟨rfl, by rw [← hl]; simp⟩) (fun q => q) ((fx 72 0 (by unfold SB; omega)).trans k72) (by omega) (fun j j0 j1 => by rw [fx 12 j (by unfold SB; omega), fx 13 j (by unfold SB; omega)]; exact k12 j j0 j1) kR
              refine r_replace_192_ok hm ?_
              unfold r_replace_192
              rw [k57]
              refine ⟨⟨by omega, by omega⟩, ⟨by omega, by omega⟩, fun hgt => ?_, fun hle3 => ⟨h75.1, fun z75 => ?_, fun z75 => ?_⟩⟩
              · exact fin Bk (by rw [show (B 9 t + 1 - z).toNat = 0 by omega]; rfl) (fun _ _ _ => rfl) hMk
              · have hgt2 : ¬ (w'.length : Int) ≤ 1000 := fun w => z75 (h75.2.mpr w)
                unfold r_replace_276
                refine tail (B 9 t - bh).toNat bh Bk w' _ done c0 (by omega) rfl kP hMk k57 k58 hMD rfl (fun q => ?_) (fun _ => ?_) k72 (by omega) k12 kR
                · rw [List.length_append] at q
                  omega
                · rw [← ht2, List.length_append]
                  omega
              · refine R_nextMatch hm (e := tre B p) pk hMk (by rw [kP 59 0 (by omega), a2 59 0 (by decide) (by decide) (by decide) (by decide)]; exact g11) nk z0 z1 (by omega) (by omega) (fun hn B' f' hM' => ⟨_, rfl, ?_⟩) (fun b o hs B' f' hM' hC' ng' p' n72 n12 n13 nO n49 => ⟨_, rfl, ?_⟩)
                · rw [k57, kt] at hn
                  unfold r_replace_212
                  exact ⟨⟨by decide, by decide⟩, fun _ => fin B' hn f' hM', fun q => absurd rfl q⟩
                · rw [k57, kt] at hs
                  rw [hun, hs] at hl
                  rw [hur, hs] at ht2
                  have hb := fstM_bd _ _ z0 b o hs
                  have hbl := bgn_last (l := done) (x := (b, o)) (r := [])
                  unfold r_replace_212
                  refine ⟨⟨by decide, by decide⟩, fun q => absurd q (by decide), fun _ => ?_⟩
                  have kP' : ∀ b y, Pb b y ∨ b = 15 ∨ b = 16 ∨ (b = 31 ∧ y < 0) ∨ b = 59 → B' b y = B2 b y := fun b y q => (f' b y (by unfold Pb at q; unfold SN; omega)).trans (kP b y q)
                  have k57' : B' 57 0 = B 9 t := (f' 57 0 (by unfold SN; omega)).trans k57
                  have k58' : B' 58 0 = 1000 * t := (f' 58 0 (by unfold SN; omega)).trans k58
                  have kt' : tB B' = txB B t := tB_tx (fun y => (kP' 5 y (by unfold Pb; omega)).trans (a2 5 y (by decide) (by decide) (by decide) (by decide))) k58'
                  have hMD' : MD B' w' := MD_fr hMD (fun b y q => f' b y (by unfold SN; omega))
                  rw [k72] at n12 n13 n72
                  -- bytes ahead of the match
                  have S : ∀ (M : Nat) (x : Int) (Bj : qB) (w2 : List Int), bh ≤ x → x ≤ b → (b - x).toNat = M → FrS Sy B' Bj → MD Bj w2 → w2 ++ (sgm (txB B t) M x ++ (sbs (txB B t) (B 1) (B 2 0) (grp b o) 1201 0 ++ rpl (B 9 t) (txB B t) (tre B p) (B 1) (B 2 0) f (if o.1 = b then o.1 + 1 else o.1) o.1)) = tot → qZ m h0 (d + 12) k_replace 219 [some (.ref m), none, some (iv t), none, none, some (iv x)] [] Bj Q := by
                    intro M
                    induction M with
                    | zero =>
                      intro x Bj w2 x0 x1 hM2 fj hMj hw2
                      rw [show sgm (txB B t) 0 x = [] from rfl, List.nil_append] at hw2
                      have s : ∀ b y, b ≤ 72 → Bj b y = B' b y := fun b y q => fj b y (by unfold Sy; omega)
                      have j72 : Bj 72 0 = done.length + 1 := (s 72 0 (by decide)).trans n72
                      have j12 : Bj 12 done.length = b := (s 12 _ (by decide)).trans n12
                      refine r_replace_219_ok hm ?_
                      unfold r_replace_219
                      rw [j72, show ((done.length : Int) + 1 - 1) = done.length by omega, j12]
                      refine ⟨by omega, by omega, ⟨by omega, by omega⟩, ⟨by omega, by omega⟩, fun _ => ?_, fun q => by omega⟩
                      have tj : TXT Bj := by
                        obtain ⟨t1, t2, t3, t4, t5⟩ := p'.2.2.2.2.2.2.1
                        exact ⟨by rw [s 57 0 (by decide)]; exact t1, by rw [s 57 0 (by decide)]; exact t2, by rw [s 58 0 (by decide)]; exact t3, by rw [s 58 0 (by decide)]; exact t4, fun x x0 x1 => by rw [s 5 x (by decide)]; exact t5 x x0 x1⟩
                      have tbj : tB Bj = txB B t := by
                        rw [← kt']
                        funext v
                        unfold tB
                        rw [s 58 0 (by decide), s 5 _ (by decide)]
                      refine qZ.mono (d := d + 2) (R_substitute hm (g := grp b o) (rd := B 1) (rn := B 2 0) tj hMj (fun i i0 i1 => (s 49 i (by decide)).trans (n49 i i0 i1)) (fun i i0 i1 => by rw [s 49 i (by decide)]; exact hC' i i0 i1) ((s 16 0 (by decide)).trans ((kP' 16 0 (by omega)).trans a16)) g1.1 g1.2 (fun i i0 i1 => ⟨(s 15 i (by decide)).trans ((kP' 15 i (by omega)).trans (a15 i i0 i1)), g2 i i0 (by omega)⟩) hv (fun Bs fs hMs => ⟨rfl, ?_⟩)) (by omega) (fun _ _ q => q)
                      rw [tbj] at hMs
                      have s2 : ∀ b y, b ≤ 72 → Bs b y = B' b y := fun b y q => (fs b y (by unfold Sy; omega)).trans (s b y q)
                      unfold r_replace_255
                      rw [s2 72 0 (by decide), n72, show ((done.length : Int) + 1 - 1) = done.length by omega, s2 13 _ (by decide), n13]
                      refine ⟨by omega, by omega, ?_⟩
                      refine qZ.mono (d := d + 1) (R_behindLast hm (b := b) (e := o.1) (by rw [s2 72 0 (by decide), n72]; omega) (by rw [s2 72 0 (by decide), n72]; omega) (by rw [s2 72 0 (by decide), n72, show ((done.length : Int) + 1 - 1) = done.length by omega, s2 12 _ (by decide)]; exact n12) (by rw [s2 72 0 (by decide), n72, show ((done.length : Int) + 1 - 1) = done.length by omega, s2 13 _ (by decide)]; exact n13) ⟨by omega, by omega⟩ ⟨by omega, by omega⟩ ⟨_, rfl, ?_⟩) (by omega) (fun _ _ q => q)
                      unfold r_replace_272
                      have hz2 : z + 1 ≤ (if o.1 = b then o.1 + 1 else o.1) ∧ (if o.1 = b then o.1 + 1 else o.1) ≤ B 9 t + 1 ∧ o.1 ≤ (if o.1 = b then o.1 + 1 else o.1) := by split <;> omega
                      have hlen : ((done ++ [(b, o)]).length : Int) = done.length + 1 := by rw [List.length_append, List.length_singleton]; omega
                      refine ih (if o.1 = b then o.1 + 1 else o.1) o.1 (w2 ++ sbs (txB B t) (B 1) (B 2 0) (grp b o) 1201 0) (done ++ [(b, o)]) Bs (by omega) (by omega) (by omega) (by omega) (by omega) (by rw [← hl, List.append_assoc]; rfl) (by rw [← hw2, List.append_assoc]) (by omega) (by omega) (by omega) (PRE_fr2 p' (fun b y q => s2 b y (by omega))) (NG_fr2 ng' (fun b y q => s2 b y (by omega))) (fun b y q => (s2 b y (by unfold Pb at q; omega)).trans (kP' b y q)) (fun q q0 q1 => by rw [s2 51 q (by decide)]; exact hM' q q0 q1) ((s2 57 0 (by decide)).trans k57') ((s2 58 0 (by decide)).trans k58') hMs (by rw [s2 72 0 (by decide), n72]; omega) (fun i i0 i1 => ?_) (fun i i0 i1 => ?_)
                      · rw [s2 12 i (by decide), s2 13 i (by decide)]
                        by_cases hi : i < done.length
                        · rw [(bgn_app i0 hi).1, (bgn_app i0 hi).2, nO 12 i (Or.inl rfl) (by omega), nO 13 i (Or.inr rfl) (by omega)]
                          exact k12 i i0 hi
                        · have : i = done.length := by omega
                          subst this
                          rw [hbl.1, hbl.2]
                          exact ⟨n12, n13⟩
                      · by_cases hi : i < done.length
                        · rw [(bgn_app i0 hi).1, (bgn_app i0 hi).2]; exact kR i i0 hi
                        · have : i = done.length := by omega
                          subst this
                          rw [hbl.1, hbl.2]
                          show 0 ≤ b ∧ b ≤ 1000 ∧ 0 ≤ o.1 ∧ o.1 ≤ 1000
                          omega
                    | succ M ih2 =>
                      intro x Bj w2 x0 x1 hM2 fj hMj hw2
                      have s : ∀ b y, b ≤ 72 → Bj b y = B' b y := fun b y q => fj b y (by unfold Sy; omega)
                      have j72 : Bj 72 0 = done.length + 1 := (s 72 0 (by decide)).trans n72
                      have j12 : Bj 12 done.length = b := (s 12 _ (by decide)).trans n12
                      have j58 : Bj 58 0 = 1000 * t := (s 58 0 (by decide)).trans k58'
                      refine r_replace_219_ok hm ?_
                      unfold r_replace_219
                      rw [j72, show ((done.length : Int) + 1 - 1) = done.length by omega, j12]
                      refine ⟨by omega, by omega, ⟨by omega, by omega⟩, ⟨by omega, by omega⟩, fun q => by omega, fun _ => ?_⟩
                      refine qZ.mono (d := d + 1) (R_byteAt hm (by rw [j58]; omega) (by rw [j58]; omega) ⟨_, rfl, ?_⟩) (by omega) (fun _ _ q => q)
                      have u5 : Bj 5 (Bj 58 0 + x) = txB B t x := by rw [j58, s 5 _ (by decide), kP' 5 _ (by unfold Pb; omega)]; exact a2 5 _ (by decide) (by decide) (by decide) (by decide)
                      have hbb := g5 (1000 * t + x) (by omega) (by omega)
                      rw [u5]
                      unfold r_replace_242
                      refine qZ.mono (d := d + 1) (R_say hm hMj hbb.1 hbb.2 (fun B'' f3 hM3 => ⟨rfl, ?_⟩)) (by omega) (fun _ _ q => q)
                      unfold r_replace_245
                      refine ih2 (x + 1) B'' (w2 ++ [txB B t x]) (by omega) (by omega) (by omega) (FrS.trans fj f3 (fun _ _ q => q)) hM3 ?_
                      rw [← hw2, List.append_assoc]
                      rfl
                  exact S (b - bh).toNat bh B' w' (Int.le_refl _) (by omega) rfl FrS.refl hMD' ht2
          have c : ∀ b y, b ≠ 72 → b ≠ 74 → b ≠ 75 → (u2 (u2 (u2 B3 72 0 0) 74 0 0) 75 0 0) b y = B3 b y := fun b y n1 n2 n3 => by rw [u2_bank n3, u2_bank n2, u2_bank n1]
          have c72 : (u2 (u2 (u2 B3 72 0 0) 74 0 0) 75 0 0) 72 0 = 0 := by rw [u2_bank (by decide), u2_bank (by decide), u2_same]
          have c74 : (u2 (u2 (u2 B3 72 0 0) 74 0 0) 75 0 0) 74 0 = 0 := by rw [u2_bank (by decide), u2_same]
          have c75 : (u2 (u2 (u2 B3 72 0 0) 74 0 0) 75 0 0) 75 0 = 0 := u2_same
          generalize u2 (u2 (u2 B3 72 0 0) 74 0 0) 75 0 0 = B4 at *
          have p2 : PRE B4 (tre B p) := PRE_fr2 pre (fun b y q => c b y (by omega) (by omega) (by omega))
          refine L 1002 0 0 [] [] B4 (Int.le_refl _) (by omega) (Int.le_refl _) hn.1 (Int.le_refl _) hall htot (by omega) (by omega) (by simp) p2 (NG_new p2 (fun j j0 j1 => by
            rw [fbit_eq (B := B3) (fun z => c 67 z (by decide) (by decide) (by decide))]
            rw [c 56 0 (by decide) (by decide) (by decide), c 57 0 (by decide) (by decide) (by decide)] at j1
            exact clr j j0 j1)) (fun b y q => by rw [c b y (by unfold Pb at q; omega) (by unfold Pb at q; omega) (by unfold Pb at q; omega)]; exact fr b y (by unfold Pb at q; unfold PS; omega)) (fun q q0 q1 => by rw [c 51 q (by decide) (by decide) (by decide), fr 51 q (by unfold PS; omega)]; exact M2 q q0 q1) (by rw [c 57 0 (by decide) (by decide) (by decide)]; exact e57) (by rw [c 58 0 (by decide) (by decide) (by decide)]; exact e58) ⟨fun x hx => by simp at hx, by rw [c74]; rfl, by rw [c75]; rfl, fun i i0 i1 _ => by rw [List.length_nil] at i1; omega⟩ (by rw [c72]; rfl) (fun i i0 i1 => by rw [List.length_nil] at i1; omega) (fun i i0 i1 => by rw [List.length_nil] at i1; omega)
        have V : ∀ (N : Nat) (i : Int), 0 ≤ i → i ≤ 1201 → B 2 0 - i < N → vld (B 1) (B 2 0) N i = vld (B 1) (B 2 0) 1201 0 → qZ m h0 (d + 12) k_replace 69 [some (.ref m), some (iv p), some (iv t), some (iv i), none, none] [] B2 Q := by
          intro N
          induction N with
          | zero =>
            intro i i0 i1 hN hv
            refine r_replace_69_ok hm ?_
            unfold r_replace_69
            rw [a16]
            exact ⟨⟨by omega, by omega⟩, ⟨by omega, by omega⟩, fun _ => main hv.symm, fun q => by omega⟩
          | succ N ih =>
            intro i i0 i1 hN hv
            have hvs : vld (B 1) (B 2 0) (N + 1) i = (if B 2 0 ≤ i then none else if B 1 i = 36 then (if i + 1 < B 2 0 ∧ (B 1 (i + 1) = 36 ∨ (48 ≤ B 1 (i + 1) ∧ B 1 (i + 1) ≤ 57)) then vld (B 1) (B 2 0) N (i + 2) else some (i + 1)) else vld (B 1) (B 2 0) N (i + 1)) := rfl
            rw [hvs] at hv
            refine r_replace_69_ok hm ?_
            unfold r_replace_69
            rw [a16]
            refine ⟨⟨by omega, by omega⟩, ⟨by omega, by omega⟩, fun hge => ?_, fun hlt => ?_⟩
            · rw [if_pos hge] at hv; exact main hv.symm
            · rw [if_neg (by omega)] at hv
              have hb := g2 i i0 (by omega)
              rw [a15 i i0 hlt]
              refine ⟨i0, by omega, ⟨by omega, by omega⟩, fun h36 => ⟨⟨by omega, by omega⟩, fun hend => ?_, fun hin => ?_⟩, fun h36 => ?_⟩
              · rw [if_pos h36, if_neg (by omega)] at hv
                unfold r_replace_136 r_replace_137
                refine ⟨⟨by decide, by decide⟩, fun w => absurd rfl w, fun _ => ?_⟩
                refine qZ.mono (d := d + 1) (R_refuse hm ⟨_, rfl, ?_⟩) (by omega) (fun _ _ q => q)
                unfold r_replace_156
                exact k4 hr h6 hle (i + 1) hv.symm _ (mkPr _ 4 (i + 1) (fun b y q => by rw [u2_bank (by unfold Pb at q; omega), u2_bank (by unfold Pb at q; omega)]) (fun q q0 q1 => by rw [u2_bank (by decide), u2_bank (by decide)]; exact M2 q q0 q1) u2_same (by rw [u2_bank (by decide), u2_same]) (by omega) (by omega))
              · rw [if_pos h36] at hv
                have hb2 := g2 (i + 1) (by omega) (by omega)
                rw [a15 (i + 1) (by omega) hin]
                have good : (B 1 (i + 1) = 36 ∨ (48 ≤ B 1 (i + 1) ∧ B 1 (i + 1) ≤ 57)) → r_replace_132 m h0 (d + 11) p t i B2 Q := by
                  intro hc
                  rw [if_pos ⟨hin, hc⟩] at hv
                  unfold r_replace_132 r_replace_137
                  refine ⟨⟨by decide, by decide⟩, fun _ => ?_, fun q => absurd q (by decide)⟩
                  unfold r_replace_160
                  rw [show i + 1 + 1 = i + 2 by omega]
                  exact ih (i + 2) (by omega) (by omega) (by omega) hv
                refine ⟨by omega, by omega, ⟨by omega, by omega⟩, fun e36 => good (Or.inl e36), fun n36 => ?_⟩
                refine qZ.mono (d := d + 1) (R_in2 hm ⟨by omega, by omega⟩ ⟨by decide, by decide⟩ ⟨by decide, by decide⟩ (fun z1 z2 => ⟨_, rfl, ?_⟩) (fun z => ⟨_, rfl, ?_⟩)) (by omega) (fun _ _ q => q)
                · unfold r_replace_129
                  exact ⟨⟨by decide, by decide⟩, fun q => absurd q (by decide), fun _ => good (Or.inr ⟨z1, z2⟩)⟩
                · unfold r_replace_129
                  refine ⟨⟨by decide, by decide⟩, fun _ => ?_, fun w => absurd rfl w⟩
                  rw [if_neg (by omega)] at hv
                  unfold r_replace_136 r_replace_137
                  refine ⟨⟨by decide, by decide⟩, fun w => absurd rfl w, fun _ => ?_⟩
                  refine qZ.mono (d := d + 1) (R_refuse hm ⟨_, rfl, ?_⟩) (by omega) (fun _ _ q => q)
                  unfold r_replace_156
                  exact k4 hr h6 hle (i + 1) hv.symm _ (mkPr _ 4 (i + 1) (fun b y q => by rw [u2_bank (by unfold Pb at q; omega), u2_bank (by unfold Pb at q; omega)]) (fun q q0 q1 => by rw [u2_bank (by decide), u2_bank (by decide)]; exact M2 q q0 q1) u2_same (by rw [u2_bank (by decide), u2_same]) (by omega) (by omega))
              · rw [if_neg h36] at hv
                unfold r_replace_160
                exact ih (i + 1) (by omega) (by omega) (by omega) hv
        exact V 1201 0 (Int.le_refl _) (by omega) (by omega) rfl
      · refine qZ.mono (d := d + 1) (R_refuse hm ⟨_, rfl, ?_⟩) (by omega) (fun _ _ q => q)
        unfold r_replace_66
        exact k5 hr h6 (by omega) _ (simp0 5)
      · refine qZ.mono (d := d + 1) (R_refuse hm ⟨_, rfl, ?_⟩) (by omega) (fun _ _ q => q)
        unfold r_replace_48
        exact k2 hr h6 _ (simp0 2)
    · unfold r_replace_25
      exact ⟨⟨by decide, by decide⟩, fun w => absurd rfl w, fun _ => ref (fun w => q w.2)⟩
  · unfold r_replace_16
    exact ⟨⟨by decide, by decide⟩, fun _ => ref (fun w => q w.1), fun w => absurd rfl w⟩
end RREPL2
