/-! THE CLASS'S READER: atoms, parts, rows, ways, all -/
theorem Nd_ch {B : qB} {M : Int} {e : qT} {N q x : Int} (h : Nd B M e N 2 q) : Nd (u2 B 94 q x) M e N 2 q := by
  have f : ∀ b y, 91 ≤ b → b ≤ 96 → 0 ≤ y → y < q → (u2 B 94 q x) b y = B b y := fun b y _ _ _ y1 => by
    by_cases hb : b = 94
    · subst hb; exact u2_idx (by omega)
    · exact u2_bank hb
  have g : ∀ b y, b ≠ 94 → (u2 B 94 q x) b y = B b y := fun b y hb => u2_bank hb
  have hM : ∀ y, 0 ≤ y → y < 8 * M → (u2 B 94 q x) 99 y = B 99 y := fun y _ _ => u2_bank (by decide)
  cases e with
  | num k => unfold Nd at h ⊢; rw [if_pos rfl] at h ⊢; exact ⟨h.1, h.2.1, h.2.2.1, by rw [g 91 q (by decide)]; exact h.2.2.2⟩
  | var s =>
    unfold Nd at h ⊢
    refine ⟨h.1, ?_⟩
    rcases h.2 with w | w
    · exact Or.inl ⟨⟨w.1.1, w.1.2.1, by rw [g 91 q (by decide)]; exact w.1.2.2⟩, by rw [g 92 q (by decide)]; exact w.2.1, by rw [g 92 q (by decide)]; exact w.2.2.1, by rw [g 92 q (by decide)]; exact w.2.2.2⟩
    · refine Or.inr ⟨⟨w.1.1, w.1.2.1, by rw [g 91 q (by decide)]; exact w.1.2.2⟩, by rw [g 92 q (by decide)]; exact w.2.1, by rw [g 92 q (by decide)]; exact w.2.2.1, fun c hc => ?_⟩
      rw [g 92 q (by decide), w.2.2.2 c hc]
      exact (hoC_fr w.2.1 (by omega) (fun y _ _ => u2_bank (by decide))).symm
  | add a b => unfold Nd at h; exact absurd rfl h.1
  | sub a b => unfold Nd at h; exact absurd h.1 (by decide)
  | neg a =>
    unfold Nd at h ⊢
    obtain ⟨h1, h2, h3, h4⟩ := h
    have r1 := h3.2.1
    rw [g 93 q (by decide), g 93 (B 93 q) (by decide)]
    exact ⟨h1, ⟨h2.1, h2.2.1, by rw [g 91 q (by decide)]; exact h2.2.2⟩, xndf h3 f (Int.le_refl _), Nd_fr hM (Int.le_refl _) _ _ _ _ _ h4 (fun b y b0 b1 y0 y1 => f b y b0 b1 y0 (by omega)) (Int.le_refl _)⟩
  | mulL k a =>
    unfold Nd at h ⊢
    obtain ⟨h1, h2, h5, h3, h4⟩ := h
    have r1 := h3.2.1
    rw [g 93 q (by decide), g 93 (B 93 q) (by decide), g 92 q (by decide)]
    exact ⟨h1, ⟨h2.1, h2.2.1, by rw [g 91 q (by decide)]; exact h2.2.2⟩, h5, xndf h3 f (Int.le_refl _), Nd_fr hM (Int.le_refl _) _ _ _ _ _ h4 (fun b y b0 b1 y0 y1 => f b y b0 b1 y0 (by omega)) (Int.le_refl _)⟩
  | mulR a k =>
    unfold Nd at h ⊢
    obtain ⟨h1, h2, h3, h4, h5, h6, h7⟩ := h
    rw [g 92 q (by decide), g 93 q (by decide), g 95 q (by decide), g 96 q (by decide)]
    exact ⟨h1, ⟨h2.1, h2.2.1, by rw [g 91 q (by decide)]; exact h2.2.2⟩, h3, h4, h5, h6, Nd_fr hM (Int.le_refl _) _ _ _ _ _ h7 f (Int.le_refl _)⟩
theorem Nd_way {B : qB} {M : Int} {e : qT} {N q : Int} (h : Nd B M e N 1 q) : 1 ≤ q ∧ q < N := by
  cases e with
  | num k => unfold Nd at h; rw [if_neg (by decide), if_neg (by decide)] at h; exact ⟨h.2.1.1, h.2.1.2.1⟩
  | var s => unfold Nd at h; exact absurd h.1 (by decide)
  | add a b => unfold Nd at h; have := h.2.1 rfl; exact ⟨this.1.1, this.1.2.1⟩
  | sub a b => unfold Nd at h; exact ⟨h.2.1.1, h.2.1.2.1⟩
  | neg a => unfold Nd at h; exact absurd h.1 (by decide)
  | mulL k a => unfold Nd at h; exact absurd h.1 (by decide)
  | mulR a k => unfold Nd at h; exact absurd h.1 (by decide)
/-- a row as the first way -/
theorem Nd_r1 {B : qB} {M : Int} {e : qT} {N q : Int} (h1 : xnd B N q 12) (h2 : B 94 q = 0) (h : Nd B M e q 0 (B 93 q)) : Nd B M e N 1 q := by
  cases e with
  | num k =>
    unfold Nd at h ⊢
    rw [if_neg (by decide), if_pos rfl] at h
    rw [if_neg (by decide), if_neg (by decide)]
    exact ⟨h.1, h1, h2, h.2⟩
  | var s => unfold Nd at h; exact absurd h.1 (by decide)
  | add a b =>
    unfold Nd at h ⊢
    obtain ⟨g1, g2, g3, g4⟩ := h
    have e1 : nrr B 0 (B 93 q) = B 93 q := by unfold nrr; rw [if_neg (by decide)]
    have e2 : nrr B 1 q = B 93 q := by unfold nrr; rw [if_pos rfl]
    rw [if_neg (by decide)] at g3
    rw [if_pos rfl]
    rw [e1] at g3 g4
    rw [e2]
    exact ⟨by decide, fun _ => ⟨h1, h2⟩, g3, g4⟩
  | sub a b => unfold Nd at h; exact absurd h.1 (by decide)
  | neg a => unfold Nd at h; exact absurd h.1 (by decide)
  | mulL k a => unfold Nd at h; exact absurd h.1 (by decide)
  | mulR a k => unfold Nd at h; exact absurd h.1 (by decide)
theorem noq_kind {B : qB} {M : Int} {e : qT} {N q : Int} (h : Nd B M e N 2 q) (hw : wf e) (ha : atm e = true) : (noq e = true ↔ (3 ≤ B 91 q ∧ B 91 q ≤ 8)) ∧ (1 ≤ B 91 q ∧ B 91 q ≤ 13) ∧ (noq e = false → qat e = true) := by
  cases e with
  | num k =>
    unfold Nd at h
    rw [if_pos rfl] at h
    have k0 := h.1
    have e := h.2.2.2
    have hw : 0 ≤ k ∧ k ≤ 4 := hw
    have hn : noq (.num k) = true := decide_eq_true k0
    refine ⟨⟨fun _ => by omega, fun _ => hn⟩, by omega, fun w => ?_⟩
    rw [hn] at w; cases w
  | var s =>
    unfold Nd at h
    have : B 91 q = 1 ∨ B 91 q = 2 := by
      rcases h.2 with w | w
      · exact Or.inl w.1.2.2
      · exact Or.inr w.1.2.2
    exact ⟨⟨fun w => (by cases w), fun w => by omega⟩, by omega, fun _ => rfl⟩
  | add a b => cases ha
  | sub a b => cases ha
  | neg a => unfold Nd at h; have := h.2.1.2.2; exact ⟨⟨fun w => (by cases w), fun w => by omega⟩, by omega, fun _ => rfl⟩
  | mulL k a =>
    unfold Nd at h
    have e := h.2.1.2.2
    by_cases hk : 1 ≤ k
    · rw [if_pos hk] at e
      have hn : noq (.mulL k a) = false := decide_eq_false (by omega)
      refine ⟨⟨fun w => ?_, fun w => by omega⟩, by omega, fun _ => decide_eq_true hk⟩
      rw [hn] at w; cases w
    · rw [if_neg hk] at e
      have hn : noq (.mulL k a) = true := decide_eq_true (by omega)
      have : B 91 q = 7 ∨ B 91 q = 8 := by split at e <;> omega
      refine ⟨⟨fun _ => by omega, fun _ => hn⟩, by omega, fun w => ?_⟩
      rw [hn] at w; cases w
  | mulR a k => cases ha
theorem sAt_atm {sg : Int → Int} {e : qT} {a b : Int} (h : sAt sg a = .ok (e, b)) : atm e = true := by
  unfold sAt at h
  split at h
  · cases h
  · split at h
    · cases h; rfl
    · split at h
      · cases h; rfl
      · split at h
        · split at h
          · cases h; rfl
          · split at h
            · cases h; rfl
            · split at h
              · cases h
              · cases h; rfl
        · split at h
          · cases h; rfl
          · split at h
            · split at h
              · cases h
              · cases h; rfl
            · cases h; rfl
section CRD7
variable {h1 : qH} {d : Nat} {Q : qO → qB → Prop} {sg : Int → Int} {B0 B : qB}
theorem R_readAtom {l : Nat} {hw g : Int} {wy : Option qT} {rw : qT} {r : List sF} (hd : 6 ≤ d) (hK : CKB B0) (hst : Start sg B0 B) (hr : r.length = l) (hl : l ≤ 10) (hW : l < 10 → ∀ d', d ≤ d' + 2 → WySpec h1 sg B0 d' (l + 1)) (hat : isRE (sg (B 100 2)) = false)
    (kG : ∀ B' v e, XO sg B0 B B' e v → AP sg (B 100 2) (B 100 5) (B 100 6) hw g wy rw r e (B' 100 2) (B' 100 5) → wf e → atm e = true → Q (.inl (some (iv v))) B')
    (kB : ∀ B' v w, BP sg B0 l B B' w → 0 ≤ v → v < 408 → sBad sg (B 100 2, B 100 5, B 100 6, (hw, g, wy, rw) :: r) w → Q (.inl (some (iv v))) B') : qY h1 d n_Re_readAtom 0 [some (.ref 100), some (iv (l : Int)), none] [] B Q := by
  obtain ⟨d, rfl, he⟩ := d_pos hd
  have hst0 := hst
  obtain ⟨h, h3, hA, hsz⟩ := hst
  have A0 := h.2.1.2.2.1
  have S8 := h.2.2.2.2.2.1
  have M8 := h.2.2.2.2.2.2.1
  have hn := of_decide_eq_false hat
  -- an atom that is no bracket
  have kA : sg (B 100 2) ≠ 40 → ∀ e a, sAt sg (B 100 2) = .ok (e, a) → ∀ B' v, XO sg B0 B B' e v → B' 100 2 = a → B' 100 5 = B 100 5 → Q (.inl (some (iv v))) B' := fun n40 e a hE B' v hX ha h5 => by
    refine kG B' v e hX ?_ (sAt_bd hE).1 (sAt_atm hE)
    rw [ha, h5]
    exact AP_at (fun w => hn (Or.inl w)) (fun w => hn (Or.inr (Or.inl w))) n40 (fun w => hn (Or.inr (Or.inr w))) hE
  have kE : sg (B 100 2) ≠ 40 → ∀ w, sAt sg (B 100 2) = .error w → ∀ B' v, BP sg B0 10 B B' w → 0 ≤ v → v < 408 → Q (.inl (some (iv v))) B' := fun n40 w hE B' v hB v0 v1 => kB B' v w (hB.mono (by omega)) v0 v1 (Or.inl (sErr_at (fun w => hn (Or.inl w)) (fun w => hn (Or.inr (Or.inl w))) n40 (fun w => hn (Or.inr (Or.inr w))) hE))
  refine y_wk (c_Re_readAtom_0_ok (by omega) h.1 ?_) ⟨rfl, rfl, trivial⟩
  unfold c_Re_readAtom_0
  rw [h.2.2.1, Int.add_zero]
  have s1 : (u2 B 100 2 (B 100 2 + 1)) 90 8 = B 90 8 := u2_bank (by decide)
  have k1 : ∀ k v e, 0 ≤ sg (B 100 2) → sg (B 100 2) ≠ 40 → sAt sg (B 100 2) = .ok (e, B 100 2 + 1) → wR e = 1 → aT e = false → (∀ B', B' 91 (B 90 8) = k → B' 92 (B 90 8) = v → ∀ M, Nd B' M e (B 90 8 + 1) 2 (B 90 8)) → (∀ s, e = .var s → (k = 2 ↔ sKS sg (B 100 2))) → 1 ≤ (u2 B 100 2 ((B 100 2) + 1)) 90 8 ∧ (u2 B 100 2 ((B 100 2) + 1)) 90 8 ≤ 408 ∧ Q (.inl (some (iv (adV (u2 B 100 2 ((B 100 2) + 1)))))) (adT (u2 B 100 2 ((B 100 2) + 1)) k v 0 1) := fun k v e q0 n40 hE w1 t1 hN hxk => by
    have a9 := (h.lt q0).1
    have av : adV (u2 B 100 2 (B 100 2 + 1)) = B 90 8 := by unfold adV; rw [if_pos (by omega), s1]
    refine ⟨by omega, by omega, ?_⟩
    rw [av]
    have x := XO_ad (k := k) (v := v) (e := e) h h3 (by omega) (show B 100 2 < B 100 2 + 1 by omega) (by omega) w1 t1 hN hxk
    exact kA n40 _ _ hE _ _ x.1 x.2.1 x.2.2
  refine ⟨h.2.1, h.R _, fun q => ?_, fun q => ?_, fun q => ?_, fun q => ?_, fun q => ?_, fun q => ?_, fun q1 q2 q3 q4 q5 q6 => ⟨fun q => ⟨h.R3, ?_⟩, fun q => ⟨fun q7 => ?_, fun q7 => ⟨h.R3, ?_⟩⟩⟩⟩
  · refine k1 4 0 (.num 2) (by omega) (by omega) ?_ rfl rfl (fun B' e1 _ M => Nd_num (by decide) (by omega) (by omega) e1) (fun s w => by cases w)
    unfold sAt
    rw [if_neg (by rw [q]; decide), if_neg (by omega), if_pos q]
  · refine R_readBracket (hw := hw) (g := g) (wy := wy) (rw := rw) (r := r) (by omega) hst0 hr hl (fun hl' d' hd' => hW hl' d' (by omega)) q (fun B' v e x1 x2 x3 x4 => ⟨_, rfl, x1.1.1.1, kG B' v e x1 x2 x3 x4⟩) (fun B' v w x1 x2 x3 x4 => ⟨_, rfl, x1.1.1, kB B' v w x1 x2 x3 x4⟩)
  · have a9 := (h.lt (i := B 100 2) (by omega)).1
    have R1 := RS_at (z := B 100 2 + 1) h (by omega) (by omega)
    refine R_addClass (by omega) R1 hK (by rw [u2_bank (by decide), u2_same]; omega) (by rw [u2_bank (by decide)]; omega) (by omega) (by decide) (by decide) (by decide) (fun B' hN => ⟨_, rfl, hN.1.1, ?_⟩)
    have hN' : NSt sg B0 (u2 B 100 2 (B 100 2 + 1)) B' (fun c => decide (c ≠ 10)) := by
      obtain ⟨n1, n2, n3, n4, n5, n6, n7, n8, n9, n10⟩ := hN
      exact ⟨n1, n2, n3, n4, n5, n6, n7, n8, n9, fun c hc => by rw [n10 c hc]; exact kcl_10 ⟨c, hc⟩⟩
    have x := XO_st h h3 (by omega) (by omega) hN' (Or.inr (Or.inl q))
    rw [s1]
    refine kA (by omega) _ _ ?_ _ _ x.1 x.2.1 x.2.2
    unfold sAt
    rw [if_neg (by rw [q]; decide), if_neg (by omega), if_neg (by omega), if_neg (by omega), if_pos q]
  · have a9 := (h.lt (i := B 100 2) (by omega)).1
    exact R_readSet (by omega) h hK h3 (by omega) q (fun e a hE B' v hX ha h5 => ⟨_, rfl, hX.1.1.1, kA (by omega) e a hE B' v hX ha h5⟩) (fun w hE B' v hB v0 v1 => ⟨_, rfl, hB.1.1, kE (by omega) w hE B' v hB v0 v1⟩)
  · have a9 := (h.lt (i := B 100 2) (by omega)).1
    exact R_readEscape (by omega) h hK h3 (by omega) q (fun e a hE B' v hX ha h5 => ⟨_, rfl, hX.1.1.1, kA (by omega) e a hE B' v hX ha h5⟩) (fun w hE B' v hB v0 v1 => ⟨_, rfl, hB.1.1, kE (by omega) w hE B' v hB v0 v1⟩)
  · refine k1 3 0 (.num 1) (by omega) (by omega) ?_ rfl rfl (fun B' e1 _ M => Nd_num (by decide) (by omega) (by omega) e1) (fun s w => by cases w)
    unfold sAt
    rw [if_neg (by rw [q]; decide), if_pos q]
  · have hE : sAt sg (B 100 2) = .error (B 100 2) := by
      unfold sAt
      rw [if_pos (Or.inl q)]
    exact kE (by omega) _ hE _ _ ⟨RS_br h (by omega) (by omega), by rw [brC_3, if_pos h3], by omega, brC_at _ _ _ (by decide), by rw [brC_at _ _ _ (by decide)]; omega⟩ (by decide) (by decide)
  · have b := h.lt q
    refine k1 1 (sg (B 100 2)) _ q q2 (show sAt sg (B 100 2) = .ok (.var (mkset fun c => decide ((c : Int) = sg (B 100 2))), B 100 2 + 1) from ?_) rfl rfl (fun B' e1 e2 M => Nd_byte (by omega) (by omega) e1 e2 (by omega) (by omega)) (fun s _ => ⟨fun w => absurd w (by decide), fun w => by
      rcases w with w | w | w
      · exact absurd w q4
      · exact absurd w q3
      · exact absurd w.1 q5⟩)
    unfold sAt
    rw [if_neg (fun w => w.elim (fun w => absurd w (by omega)) (fun w => by rw [bi_z.mp q7] at w; cases w)), if_neg q6, if_neg q1, if_neg q5, if_neg q3, if_neg q4]
  · have hE : sAt sg (B 100 2) = .error (B 100 2) := by
      unfold sAt
      rw [if_pos (Or.inr (bi_n0.mp q7))]
    exact kE q2 _ hE _ _ ⟨RS_br h (by omega) (by omega), by rw [brC_3, if_pos h3], by omega, brC_at _ _ _ (by decide), by rw [brC_at _ _ _ (by decide)]; omega⟩ (by decide) (by decide)
theorem R_readPart {l : Nat} {hw g : Int} {wy : Option qT} {rw : qT} {r : List sF} (hd : 7 ≤ d) (hK : CKB B0) (hst : Start sg B0 B) (hr : r.length = l) (hl : l ≤ 10) (hW : l < 10 → ∀ d', d ≤ d' + 3 → WySpec h1 sg B0 d' (l + 1)) (hat : isRE (sg (B 100 2)) = false)
    (kG : ∀ B' v q, XO sg B0 B B' q v → sGo sg (B 100 2, B 100 5, B 100 6, (hw, g, wy, rw) :: r) (B' 100 2, B' 100 5, B' 100 6, (hw, g, wy, .add rw q) :: r) → wf q → Q (.inl (some (iv v))) B')
    (kB : ∀ B' v w, BP sg B0 l B B' w → 0 ≤ v → v < 408 → sBad sg (B 100 2, B 100 5, B 100 6, (hw, g, wy, rw) :: r) w → Q (.inl (some (iv v))) B') : qY h1 d n_Re_readPart 0 [some (.ref 100), some (iv (l : Int)), none, none, none] [] B Q := by
  obtain ⟨d, rfl, he⟩ := d_pos hd
  have hst0 := hst
  obtain ⟨h, h3, hA, hsz⟩ := hst
  have A0 := h.2.1.2.2.1
  have K7 := h.2.2.2.2.2.2.2.2.2.1
  refine y_wk (c_Re_readPart_0_ok (by omega) h.1 ?_) ⟨rfl, rfl, trivial⟩
  refine R_readAtom (hw := hw) (g := g) (wy := wy) (rw := rw) (r := r) (by omega) hK hst0 hr hl (fun hl' d' hd' => hW hl' d' (by omega)) hat (fun B1 v e hX hAP hwf hatm => ⟨_, rfl, hX.1.1.1, ?_⟩) (fun B1 v w hB v0 v1 hbad => ⟨_, rfl, hB.1.1, ?_⟩)
  · obtain ⟨hGP, hNd, hvN, hvw, hvk, hvl, hvx⟩ := hX
    obtain ⟨p1, p2, p3, p4, p5, p6, p7, p8, p9, p10, p11⟩ := hGP
    have hX : XO sg B0 B B1 e v := ⟨⟨p1, p2, p3, p4, p5, p6, p7, p8, p9, p10, p11⟩, hNd, hvN, hvw, hvk, hvl, hvx⟩
    have vb := Nd_part hNd
    have nk := noq_kind hNd hwf hatm
    have S1 := p1.2.2.2.2.2.1
    have K1 := p1.2.2.2.2.2.2.2.2.2.1
    have O1 := p1.2.2.2.2.2.2.2.2.2.2.2
    have t1 : bi (decide (¬ B1 100 3 = -1)) = 0 := by rw [decide_eq_false (fun w => w p2)]; rfl
    unfold c_Re_readPart_10
    rw [p1.2.2.1, Int.add_zero]
    refine ⟨p1.R3, fun q => absurd t1 q, fun _ => ⟨p1.2.1, p1.R _, fun q => ?_, fun q => ?_⟩⟩
    · have hq := bi_n0.mp q
      have k64 : noq e = false → c_Re_readPart_64 h1 d (B 100 7) v B1 Q := fun hno => by
        have k86 : ∀ z, z = bi (decide (B1 100 6 > 0 ∨ aT e = true)) → c_Re_readPart_86 h1 d v z B1 Q := fun z hz => by
          have lk6 : (if B1 100 6 > 0 then True else True) := by split <;> trivial
          refine R_readRounds (lk := B 100 6) (e := e) (by omega) p1 p2 (by omega) vb.1 vb.2 hvw (wR_bd e hwf).1 hq hno (by rw [hz, p3]) (fun q b hE l' hh gg B' eq hR => ⟨_, rfl, ?_⟩) (fun w hE B' v' hB v0 v1 => ⟨_, rfl, hB.1.1, ?_⟩)
          · obtain ⟨⟨r1, r2, r3, r4, r5⟩, r6, r7, r8, r9, r10, r11, r12, r13, r14, r15, r16, r17, r18, r19, r20, r21, r22, r23⟩ := hR
            refine ⟨r6.1, kG B' _ q ⟨⟨r6, r7, by rw [r12]; exact p3, by omega, by omega, by omega, by omega, fun b x b0 b1 x0 x1 => (r15 b x b0 b1 x0 (by omega)).trans (p8 b x b0 b1 x0 x1), by omega, fun x x0 x1 => (r17 x).trans (p10 x x0 x1), by rw [r13]; split <;> omega⟩, ?_, by omega, by rw [r23, eq], ?_, by omega, fun s hs => by rw [eq] at hs; cases hs⟩ ?_ ?_⟩
            · rw [eq]
              have e1 : rl (rc l' hh gg) = l' := rc_l r1.1 (by omega)
              have e2 : rh (rc l' hh gg) = hh := rc_h r1.1 (by omega) (by omega) (by omega)
              have e3 : rg (rc l' hh gg) = gg := rc_g r1.1 (by omega) (by omega) (by omega)
              unfold Nd
              rw [e1, e2, e3]
              refine ⟨rfl, ⟨by omega, by omega, r18⟩, r19, r21, r22, nk.2.2 hno, ?_⟩
              rw [r20, r16]
              exact Nd_fr (fun x _ _ => r17 x) (Int.le_refl _) _ _ _ _ _ hNd (fun b x b0 b1 x0 x1 => r15 b x b0 (by omega) x0 x1) (Int.le_refl _)
            · rw [eq]
              have e3 : rg (rc l' hh gg) = gg := rc_g r1.1 (by omega) (by omega) (by omega)
              show _ ↔ (aT e || decide (rg (rc l' hh gg) = 2)) = false
              rw [e3, r13]
              constructor
              · intro hk
                by_cases h2 : gg = 2
                · rw [if_pos h2] at hk; omega
                · rw [if_neg h2] at hk
                  rw [decide_eq_false h2, Bool.or_false]
                  exact hvk.mp (by omega)
              · intro hk
                have hk' := Bool.or_eq_false_iff.mp hk
                have e0 : ¬ gg = 2 := of_decide_eq_false hk'.2
                have := hvk.mpr hk'.1
                rw [if_neg e0]; omega
            · rw [r8, r11, r12, p3]
              exact hAP.1 q b hE
            · exact (sQt_bd hwf hE).1
          · refine kB B' v' w ⟨hB.1, hB.2.1, hB.2.2.1, by rw [hB.2.2.2.1]; exact p3, by have := hB.2.2.2.2; omega⟩ v0 v1 (Or.inl (hAP.2 w hE))
        refine ⟨⟨by omega, by omega⟩, ⟨by omega, by omega⟩, fun q => ?_, fun q => ⟨⟨by omega, by omega⟩, fun q2 => ?_, fun q2 => ?_⟩⟩
        · refine k86 1 ?_
          have ha : aT e = true := by
            rw [← Bool.not_eq_false]
            exact fun w => q (hvk.mpr w)
          rw [decide_eq_true (Or.inr ha)]; rfl
        · refine k86 0 ?_
          rw [decide_eq_false]; · rfl
          intro w
          rcases w with w | w
          · omega
          · rw [hvk.mp q] at w; cases w
        · refine k86 1 ?_
          rw [decide_eq_true (Or.inl q2)]; rfl
      have knq : ¬ (3 ≤ B1 91 v ∧ B1 91 v ≤ 8) → noq e = false := fun w => by
        rw [← Bool.not_eq_true]
        exact fun w2 => w (nk.1.mp w2)
      refine ⟨by omega, by omega, ⟨by omega, by omega⟩, fun q2 => k64 (knq (by omega)), fun q2 => ⟨fun q3 => k64 (knq (by omega)), fun q3 => ?_⟩⟩
      have hno := nk.1.mpr ⟨q2, q3⟩
      have hE : sQt sg (B 100 6) e (B1 100 2) = .error (B1 100 2) := by
        unfold sQt
        rw [if_pos hq, if_pos hno]
      have e3 : brC B1 (B1 100 2) 100 3 = B1 100 2 := by rw [brC_3, if_pos p2]
      exact kB _ v _ ⟨RS_br p1 (by omega) (by omega), e3, by omega, by rw [brC_at _ _ _ (by decide)]; exact p3, by rw [brC_at _ _ _ (by decide)]; omega⟩ (by omega) (by omega) (Or.inl (hAP.2 _ hE))
    · have hq := bi_z.mp q
      have hE : sQt sg (B 100 6) e (B1 100 2) = .ok (e, B1 100 2) := by
        unfold sQt
        rw [if_neg (by rw [hq]; decide)]
      have := hAP.1 e (B1 100 2) hE
      refine kG B1 v e hX ?_ hwf
      rw [p3]
      exact this
  · obtain ⟨q1, q2, q3, q4, q5⟩ := hB
    refine ⟨q1.R3, fun _ => kB B1 v w ⟨q1, q2, q3, q4, q5⟩ v0 v1 hbad, fun q => ?_⟩
    have := bi_z.mp q
    rw [decide_eq_true (show ¬ B1 100 3 = -1 by omega)] at this
    cases this
/-- broken within a row -/
theorem L_rowB {l : Nat} {x2 x3 x4 w : Int} (hd : 2 ≤ d) {Bs : qB} (hB : BP sg B0 l Bs B w) (x40 : 0 ≤ x4) (x41 : x4 ≤ 1000) (x30 : 0 ≤ x3) (x31 : x3 ≤ 1000000) (k : ∀ B' v, BP sg B0 l Bs B' w → 0 ≤ v → v < 408 → Q (.inl (some (iv v))) B') : qY h1 (d + 1) n_Re_readRow 7 [some (.ref 100), some (iv (l : Int)), some (iv x2), some (iv x3), some (iv x4), none] [] B Q := by
  obtain ⟨q1, q2, q3, q4, q5⟩ := hB
  have S1 := q1.2.2.2.2.2.1
  have c71 : c_Re_readRow_71 h1 d x2 x3 B Q := by
    refine ⟨S1.1, S1.2, ⟨by omega, by omega⟩, ?_⟩
    have o1 : ∀ x, adT B 12 0 x2 x3 100 x = B 100 x := fun x => adT_o 100 x (by omega) (by omega)
    refine k _ _ ⟨RS_ad q1 x30 ⟨by omega, by omega⟩, by rw [o1]; exact q2, q3, by rw [o1]; exact q4, by rw [o1]; exact q5⟩ ?_ ?_
    · unfold adV; split <;> omega
    · unfold adV; split <;> omega
  refine c_Re_readRow_7_ok hd q1.1 ⟨⟨by omega, by omega⟩, fun _ => c71, fun _ => ⟨q1.R3, fun _ => c71, fun q => ?_⟩⟩
  have := bi_z.mp q
  rw [decide_eq_true (show ¬ B 100 3 = -1 by omega)] at this
  cases this
theorem L_row {l : Nat} {hw g : Int} {wy : Option qT} {r : List sF} {Bs : qB} (hd : 7 ≤ d) (hK : CKB B0) (hs : Start sg B0 Bs) (hr : r.length = l) (hl : l ≤ 10) (hW : l < 10 → ∀ d', d ≤ d' + 3 → WySpec h1 sg B0 d' (l + 1))
    (kG : ∀ B' v rw, RO sg B0 Bs B' rw v → sGo sg (Bs 100 2, Bs 100 5, Bs 100 6, (hw, g, wy, .num 0) :: r) (B' 100 2, B' 100 5, B' 100 6, (hw, g, wy, rw) :: r) → isRE (sg (B' 100 2)) = true → Q (.inl (some (iv v))) B')
    (kB : ∀ B' v w, BP sg B0 l Bs B' w → 0 ≤ v → v < 408 → sBad sg (Bs 100 2, Bs 100 5, Bs 100 6, (hw, g, wy, .num 0) :: r) w → Q (.inl (some (iv v))) B') :
    ∀ (n : Nat) (B : qB) (rw : qT) (last wt cnt : Int), B 100 2 + n = 200 → GP sg B0 0 Bs B → Nd B (B 98 1) rw (B 90 8) 0 last → 0 ≤ wt → min wt 401 = min (wR rw) 401 → wt ≤ 401 * cnt → 0 ≤ cnt → cnt ≤ B 100 2 - Bs 100 2 → sGo sg (Bs 100 2, Bs 100 5, Bs 100 6, (hw, g, wy, .num 0) :: r) (B 100 2, B 100 5, B 100 6, (hw, g, wy, rw) :: r) → (B 100 7 = Bs 100 7 ↔ aT rw = false) → wf rw → 0 ≤ last → last < 408 → (rw = .num 0 → B 100 2 = Bs 100 2) → (∀ s, rw = .add (.num 0) (.var s) → (B 91 last = 2 ↔ sKS sg (Bs 100 2))) → qY h1 (d + 1) n_Re_readRow 7 [some (.ref 100), some (iv (l : Int)), some (iv last), some (iv wt), some (iv cnt), none] [] B Q := by
  intro n
  induction n using Nat.strongRecOn with
  | _ n ih =>
    intro B rw last wt cnt hn hGP hNd w0 w1 w2 c0 c1 hgo hk hwf la0 la1 hx0 hxk
    obtain ⟨p1, p2, p3, p4, p5, p6, p7, p8, p9, p10, p11⟩ := hGP
    have hGP : GP sg B0 0 Bs B := ⟨p1, p2, p3, p4, p5, p6, p7, p8, p9, p10, p11⟩
    have hs4 := hs.2.2.2
    have As := hs.1.2.1.2.2.1
    have S1 := p1.2.2.2.2.2.1
    have t1 : bi (decide (¬ B 100 3 = -1)) = 0 := by rw [decide_eq_false (fun w => w p2)]; rfl
    refine c_Re_readRow_7_ok (by omega) p1.1 ?_
    unfold c_Re_readRow_7
    rw [p1.2.2.1, Int.add_zero]
    refine ⟨⟨by omega, by omega⟩, fun q => absurd q (by omega), fun _ => ⟨p1.R3, fun q => absurd t1 q, fun _ => ⟨p1.2.1, p1.R _, fun q => ?_, fun q => ?_⟩⟩⟩
    · -- the row ends
      have hre := bi_n0.mp q
      have hlt : B 90 8 < 408 := by omega
      have av : adV B = B 90 8 := by unfold adV; rw [if_pos hlt]
      refine ⟨by omega, by omega, ⟨by omega, by omega⟩, ?_⟩
      rw [av]
      have n9 := adT_n (B := B) (k := 12) (v := 0) (i := last) (z := wt) hlt
      have o1 : ∀ x, adT B 12 0 last wt 100 x = B 100 x := fun x => adT_o 100 x (by omega) (by omega)
      have o98 : adT B 12 0 last wt 98 1 = B 98 1 := adT_o 98 1 (by omega) (by omega)
      have o99 : ∀ x, adT B 12 0 last wt 99 x = B 99 x := fun x => adT_o 99 x (by omega) (by omega)
      have oo : ∀ b x, 91 ≤ b → b ≤ 97 → x < B 90 8 → adT B 12 0 last wt b x = B b x := fun b x b0 b1 x1 => adT_o b x (by omega) (by omega)
      refine kG _ _ rw ⟨⟨RS_ad p1 w0 ⟨by omega, by omega⟩, by rw [o1]; exact p2, by rw [o1]; exact p3, by rw [o1]; exact p4, by rw [o1]; exact p5, by rw [n9.1]; omega, by rw [n9.1, o1]; omega, fun b x b0 b1 x0 x1 => (oo b x b0 b1 (by omega)).trans (p8 b x b0 b1 x0 x1), by rw [o98]; exact p9, fun x x0 x1 => (o99 x).trans (p10 x x0 x1), by rw [o1]; exact p11⟩, ⟨by omega, by rw [n9.1]; omega, n9.2.1⟩, n9.2.2.2.2.1, ?_, p6, by rw [n9.2.2.2.2.2]; exact w1, by rw [o1]; exact hk, hwf, fun s hs => ?_⟩ ?_ (by rw [o1]; exact hre)
      · rw [n9.2.2.2.1, o98]
        exact Nd_fr (fun x _ _ => o99 x) (Int.le_refl _) _ _ _ _ _ hNd (fun b x b0 b1 x0 x1 => oo b x b0 (by omega) x1) (Int.le_refl _)
      · have lb : last < B 90 8 := by
          rw [hs] at hNd
          have g3 := hNd.2.2.1
          rw [if_neg (by decide)] at g3
          have e0 : nrr B 0 last = last := by unfold nrr; rw [if_neg (by decide)]
          rw [e0] at g3
          exact (Nd_part g3).2
        rw [n9.2.2.2.1, oo 91 last (by decide) (by decide) lb]
        exact hxk s hs
      · rw [o1, o1, o1]; exact hgo
    · have hre := bi_z.mp q
      refine R_readPart (hw := hw) (g := g) (wy := wy) (rw := rw) (r := r) (by omega) hK ⟨p1, p2, p5, by omega⟩ hr hl hW hre (fun B1 v q hX hgo1 hwq => ⟨_, rfl, hX.1.1.1, ?_⟩) (fun B1 v w hB v0 v1 hbad => ⟨_, rfl, hB.1.1, ?_⟩)
      · obtain ⟨⟨r1, r2, r3, r4, r5, r6, r7, r8, r9, r10, r11⟩, hNq, hvN, hvw, hvk, hvl, hvx⟩ := hX
        have vb := Nd_part hNq
        have S2 := r1.2.2.2.2.2.1
        have wq := (wR_bd q hwq).1
        have wr := (wR_bd rw hwf).1
        have e97 : (u2 B1 94 v last) 97 v = min (wR q) 401 := by rw [u2_bank (by decide)]; exact hvw
        refine ⟨by omega, by omega, ?_⟩
        rw [e97]
        have o1 : ∀ x, (u2 B1 94 v last) 100 x = B1 100 x := fun x => u2_bank (by decide)
        have o98 : (u2 B1 94 v last) 98 1 = B1 98 1 := u2_bank (by decide)
        have o90 : (u2 B1 94 v last) 90 8 = B1 90 8 := u2_bank (by decide)
        have o99 : ∀ x, (u2 B1 94 v last) 99 x = B1 99 x := fun x => u2_bank (by decide)
        have oo : ∀ b x, x < v → (u2 B1 94 v last) b x = B1 b x := fun b x hx => by
          by_cases hb : b = 94
          · subst hb; exact u2_idx (by omega)
          · exact u2_bank hb
        refine ih (n - (B1 100 2 - B 100 2).toNat) (by omega) _ (.add rw q) v _ (cnt + 1) (by rw [o1]; omega) ⟨RS_94 r1 (by omega), by rw [o1]; exact r2, by rw [o1, r3]; exact p3, by rw [o1]; omega, by rw [o1]; exact r5, by rw [o90]; omega, by rw [o90, o1]; omega, fun b x b0 b1 x0 x1 => ?_, by rw [o98]; omega, fun x x0 x1 => ?_, by rw [o1]; omega⟩ ?_ (by omega) ?_ (by omega) (by omega) (by rw [o1]; omega) (by rw [o1, o1, o1]; exact hgo.tr hgo1) ?_ ⟨hwf, hwq⟩ (by omega) (by omega) (fun w => by cases w) (fun s hs => ?_)
        · rw [oo b x (by omega), r8 b x b0 b1 x0 (by omega)]; exact p8 b x b0 b1 x0 x1
        · rw [o99, r10 x x0 (by omega)]; exact p10 x x0 x1
        · have e0 : nrr (u2 B1 94 v last) 0 v = v := by unfold nrr; rw [if_neg (by decide)]
          unfold Nd
          rw [if_neg (by decide), e0, u2_same, o98, o90]
          refine ⟨by decide, fun w => absurd w (by decide), Nd_ch hNq, ?_⟩
          exact Nd_fr (fun x x0 x1 => by rw [o99]; exact r10 x x0 x1) r9 _ _ _ _ _ hNd (fun b x b0 b1 x0 x1 => by rw [oo b x (by omega)]; exact r8 b x b0 (by omega) x0 x1) hvN
        · show _ = min (wR rw + wR q) 401
          omega
        · rw [o1]
          show _ ↔ (aT rw || aT q) = false
          rw [Bool.or_eq_false_iff]
          constructor
          · intro e
            exact ⟨hk.mp (by omega), hvk.mp (by omega)⟩
          · intro e
            have := hk.mpr e.1
            have := hvk.mpr e.2
            omega
        · have h1' : rw = .num 0 := by injection hs
          have h2' : q = .var s := by injection hs
          rw [u2_bank (by decide), ← hx0 h1']
          exact hvx s h2'
      · obtain ⟨q1, q2, q3, q4, q5⟩ := hB
        have w97 := q1.2.2.2.2.2.2.2.1 v v0 v1
        have e97 : (u2 B1 94 v last) 97 v = B1 97 v := u2_bank (by decide)
        refine ⟨v0, v1, ?_⟩
        rw [e97]
        refine L_rowB (w := w) (by omega) (Bs := Bs) ⟨RS_94 q1 v0, by rw [u2_bank (by decide)]; exact q2, q3, by rw [u2_bank (by decide), q4]; exact p3, by rw [u2_bank (by decide)]; exact q5⟩ (by omega) (by omega) (by omega) (by omega) (fun B' v' hB' v0' v1' => kB B' v' w hB' v0' v1' (hbad.go hgo))
theorem R_readRow {l : Nat} {hw g : Int} {wy : Option qT} {r : List sF} (hd : 8 ≤ d) (hK : CKB B0) (hs : Start sg B0 B) (hr : r.length = l) (hl : l ≤ 10) (hW : l < 10 → ∀ d', d ≤ d' + 4 → WySpec h1 sg B0 d' (l + 1))
    (kG : ∀ B' v rw, RO sg B0 B B' rw v → sGo sg (B 100 2, B 100 5, B 100 6, (hw, g, wy, .num 0) :: r) (B' 100 2, B' 100 5, B' 100 6, (hw, g, wy, rw) :: r) → isRE (sg (B' 100 2)) = true → Q (.inl (some (iv v))) B')
    (kB : ∀ B' v w, BP sg B0 l B B' w → 0 ≤ v → v < 408 → sBad sg (B 100 2, B 100 5, B 100 6, (hw, g, wy, .num 0) :: r) w → Q (.inl (some (iv v))) B') : qY h1 d n_Re_readRow 0 [some (.ref 100), some (iv (l : Int)), none, none, none, none] [] B Q := by
  obtain ⟨d, rfl, he⟩ := d_pos hd
  have A0 := hs.1.2.1.2.2.1
  have hs3 := hs.2.2.1
  refine y_wk (c_Re_readRow_0_ok (by omega) hs.1.1 ?_) ⟨rfl, rfl, trivial⟩
  refine L_row (hw := hw) (g := g) (wy := wy) (r := r) (by omega) hK hs hr hl (fun hl' d' hd' => hW hl' d' (by omega)) kG kB (200 - B 100 2).toNat B (.num 0) 0 0 0 (by omega) (GP_100 hs.1 hs.2.1 rfl (Int.le_refl _) hs3 (fun _ _ _ => rfl) (Int.le_refl _)) ?_ (by decide) (by decide) (by decide) (by decide) (by omega) sGo.refl ⟨fun _ => rfl, fun _ => rfl⟩ ⟨by decide, by decide⟩ (by decide) (by decide) (fun _ => rfl) (fun s w => by cases w)
  unfold Nd
  rw [if_neg (by decide), if_pos rfl]
  exact ⟨rfl, rfl⟩
/-- broken within ways -/
theorem L_wayB {l : Nat} {x2 x3 x4 w : Int} (hd : 2 ≤ d) {Bs : qB} (hB : BP sg B0 l Bs B w) (x40 : 0 ≤ x4) (x41 : x4 ≤ 1000) (x30 : 0 ≤ x3) (x31 : x3 ≤ 1000000) (k : ∀ B' v, BP sg B0 l Bs B' w → 0 ≤ v → v < 408 → Q (.inl (some (iv v))) B') : qY h1 (d + 1) n_Re_readWays 18 [some (.ref 100), some (iv (l : Int)), some (iv x2), some (iv x3), some (iv x4), none] [] B Q := by
  obtain ⟨q1, q2, q3, q4, q5⟩ := hB
  have S1 := q1.2.2.2.2.2.1
  have c93 : c_Re_readWays_93 h1 d x2 x3 B Q := by
    refine ⟨S1.1, S1.2, ⟨by omega, by omega⟩, ?_⟩
    have o1 : ∀ x, adT B 13 0 x2 x3 100 x = B 100 x := fun x => adT_o 100 x (by omega) (by omega)
    refine k _ _ ⟨RS_ad q1 x30 ⟨by omega, by omega⟩, by rw [o1]; exact q2, q3, by rw [o1]; exact q4, by rw [o1]; exact q5⟩ ?_ ?_
    · unfold adV; split <;> omega
    · unfold adV; split <;> omega
  refine c_Re_readWays_18_ok hd q1.1 ⟨⟨by omega, by omega⟩, fun _ => c93, fun _ => ⟨q1.R3, fun _ => c93, fun q => ?_⟩⟩
  have := bi_z.mp q
  rw [decide_eq_true (show ¬ B 100 3 = -1 by omega)] at this
  cases this
theorem L_way {l : Nat} {hw g : Int} {r : List sF} {Bs : qB} (hd : 8 ≤ d) (hK : CKB B0) (hs : Start sg B0 Bs) (hr : r.length = l) (hl : l ≤ 10) (hW : l < 10 → ∀ d', d ≤ d' + 4 → WySpec h1 sg B0 d' (l + 1))
    (kG : ∀ B' v wy rw, WO sg B0 Bs B' (clo wy rw) v → sGo sg (Bs 100 2, Bs 100 5, Bs 100 6, (hw, g, none, .num 0) :: r) (B' 100 2, B' 100 5, B' 100 6, (hw, g, wy, rw) :: r) → (sg (B' 100 2) = -1 ∨ sg (B' 100 2) = 41) → Q (.inl (some (iv v))) B')
    (kB : ∀ B' v w, BP sg B0 l Bs B' w → 0 ≤ v → v < 408 → sBad sg (Bs 100 2, Bs 100 5, Bs 100 6, (hw, g, none, .num 0) :: r) w → Q (.inl (some (iv v))) B') :
    ∀ (n : Nat) (B : qB) (wy : Option qT) (rw : qT) (last wt cnt : Int), B 100 2 + n = 200 → GP sg B0 1 Bs B → Nd B (B 98 1) (clo wy rw) (B 90 8) 1 last → 0 ≤ wt → min wt 401 = min (wR (clo wy rw)) 401 → wt ≤ 402 * (cnt + 1) → 0 ≤ cnt → cnt ≤ B 100 2 - Bs 100 2 → sGo sg (Bs 100 2, Bs 100 5, Bs 100 6, (hw, g, none, .num 0) :: r) (B 100 2, B 100 5, B 100 6, (hw, g, wy, rw) :: r) → isRE (sg (B 100 2)) = true → (B 100 7 = Bs 100 7 ↔ aT (clo wy rw) = false) → wf (clo wy rw) → (∀ s, clo wy rw = .add (.num 0) (.var s) → (B 91 (B 93 last) = 2 ↔ sKS sg (Bs 100 2))) → qY h1 (d + 1) n_Re_readWays 18 [some (.ref 100), some (iv (l : Int)), some (iv last), some (iv wt), some (iv cnt), none] [] B Q := by
  intro n
  induction n using Nat.strongRecOn with
  | _ n ih =>
    intro B wy rw last wt cnt hn hGP hNd w0 w1 w2 c0 c1 hgo hre hk hwf hxk
    obtain ⟨p1, p2, p3, p4, p5, p6, p7, p8, p9, p10, p11⟩ := hGP
    have hs4 := hs.2.2.2
    have As := hs.1.2.1.2.2.1
    have S1 := p1.2.2.2.2.2.1
    have lb := Nd_way hNd
    have t1 : bi (decide (¬ B 100 3 = -1)) = 0 := by rw [decide_eq_false (fun w => w p2)]; rfl
    have hre' := of_decide_eq_true hre
    have c93 : sg (B 100 2) ≠ 124 → c_Re_readWays_93 h1 d last wt B Q := by
      intro hne
      have hlt : B 90 8 < 408 := by omega
      have av : adV B = B 90 8 := by unfold adV; rw [if_pos hlt]
      refine ⟨by omega, by omega, ⟨by omega, by omega⟩, ?_⟩
      rw [av]
      have n9 := adT_n (B := B) (k := 13) (v := 0) (i := last) (z := wt) hlt
      have o1 : ∀ x, adT B 13 0 last wt 100 x = B 100 x := fun x => adT_o 100 x (by omega) (by omega)
      have o98 : adT B 13 0 last wt 98 1 = B 98 1 := adT_o 98 1 (by omega) (by omega)
      have o99 : ∀ x, adT B 13 0 last wt 99 x = B 99 x := fun x => adT_o 99 x (by omega) (by omega)
      have oo : ∀ b x, 91 ≤ b → b ≤ 97 → x < B 90 8 → adT B 13 0 last wt b x = B b x := fun b x b0 b1 x1 => adT_o b x (by omega) (by omega)
      refine kG _ _ wy rw ⟨⟨RS_ad p1 w0 ⟨by omega, by omega⟩, by rw [o1]; exact p2, by rw [o1]; exact p3, by rw [o1]; exact p4, by rw [o1]; exact p5, by rw [n9.1]; omega, by rw [n9.1, o1]; omega, fun b x b0 b1 x0 x1 => (oo b x b0 b1 (by omega)).trans (p8 b x b0 b1 x0 x1), by rw [o98]; exact p9, fun x x0 x1 => (o99 x).trans (p10 x x0 x1), by rw [o1]; exact p11⟩, ⟨by omega, by rw [n9.1]; omega, n9.2.1⟩, ?_, p6, by rw [n9.2.2.2.2.2]; exact w1, by rw [o1]; exact hk, hwf, fun s hs => ?_⟩ ?_ (by rw [o1]; omega)
      · rw [n9.2.2.2.1, o98]
        exact Nd_fr (fun x _ _ => o99 x) (Int.le_refl _) _ _ _ _ _ hNd (fun b x b0 b1 x0 x1 => oo b x b0 (by omega) x1) (Int.le_refl _)
      · have lq : B 93 last < B 90 8 := by
          rw [hs] at hNd
          have g3 := hNd.2.2.1
          rw [if_pos rfl] at g3
          have e0 : nrr B 1 last = B 93 last := by unfold nrr; rw [if_pos rfl]
          rw [e0] at g3
          have := (Nd_part g3).2
          omega
        rw [n9.2.2.2.1, oo 93 last (by decide) (by decide) lb.2, oo 91 _ (by decide) (by decide) lq]
        exact hxk s hs
      · rw [o1, o1, o1]; exact hgo
    refine c_Re_readWays_18_ok (by omega) p1.1 ?_
    unfold c_Re_readWays_18
    rw [p1.2.2.1, Int.add_zero]
    refine ⟨⟨by omega, by omega⟩, fun q => c93 (fun w => by have := (p1.lt (i := B 100 2) (by omega)).1; omega), fun _ => ⟨p1.R3, fun q => absurd t1 q, fun _ => ⟨p1.2.1, p1.R _, fun q => c93 q, fun q => ?_⟩⟩⟩
    have a9 := (p1.lt (i := B 100 2) (by omega)).1
    have R1 := RS_at (z := B 100 2 + 1) p1 (by omega) (by omega)
    have z1 : (u2 B 100 2 (B 100 2 + 1)) 90 8 = B 90 8 := u2_bank (by decide)
    have z2 : (u2 B 100 2 (B 100 2 + 1)) 100 2 = B 100 2 + 1 := u2_same
    have z3 : ∀ x, x ≠ 2 → (u2 B 100 2 (B 100 2 + 1)) 100 x = B 100 x := fun x hx => u2_idx hx
    have z4 : ∀ b x, b ≠ 100 → (u2 B 100 2 (B 100 2 + 1)) b x = B b x := fun b x hb => u2_bank hb
    generalize u2 B 100 2 (B 100 2 + 1) = B1 at R1 z1 z2 z3 z4
    have go1 : sGo sg (Bs 100 2, Bs 100 5, Bs 100 6, (hw, g, none, .num 0) :: r) (B1 100 2, B1 100 5, B1 100 6, (hw, g, some (clo wy rw), .num 0) :: r) := by
      refine hgo.tr (sGo_step (by show sg (B 100 2) ≠ -1; omega) ?_)
      show (if sg (B 100 2) = 124 then _ else _) = _
      rw [if_pos q, z2, z3 5 (by decide), z3 6 (by decide)]
    refine R_readRow (hw := hw) (g := g) (wy := some (clo wy rw)) (r := r) (by omega) hK ⟨R1, by rw [z3 3 (by decide)]; exact p2, by omega, by omega⟩ hr hl hW (fun B2 v rw2 hRO hgo2 hre2 => ⟨_, rfl, hRO.1.1.1, ?_⟩) (fun B2 v w hB v0 v1 hbad => ⟨_, rfl, hB.1.1, ?_⟩)
    · obtain ⟨⟨r1, r2, r3, r4, r5, r6, r7, r8, r9, r10, r11⟩, hv12, hv94, hNr, hvN, hvw, hvk, hvwf, -⟩ := hRO
      have v0 := hv12.1
      have v1 := hv12.2.1
      have S2 := r1.2.2.2.2.2.1
      have wq := (wR_bd rw2 hvwf).1
      have wr := (wR_bd _ hwf).1
      have e97 : (u2 B2 94 v last) 97 v = min (wR rw2) 401 := by rw [u2_bank (by decide)]; exact hvw
      refine ⟨by omega, by omega, ?_⟩
      rw [e97]
      have o1 : ∀ x, (u2 B2 94 v last) 100 x = B2 100 x := fun x => u2_bank (by decide)
      have o98 : (u2 B2 94 v last) 98 1 = B2 98 1 := u2_bank (by decide)
      have o90 : (u2 B2 94 v last) 90 8 = B2 90 8 := u2_bank (by decide)
      have o99 : ∀ x, (u2 B2 94 v last) 99 x = B2 99 x := fun x => u2_bank (by decide)
      have oo : ∀ b x, x < v → (u2 B2 94 v last) b x = B2 b x := fun b x hx => by
        by_cases hb : b = 94
        · subst hb; exact u2_idx (by omega)
        · exact u2_bank hb
      have og : ∀ b x, b ≠ 94 → (u2 B2 94 v last) b x = B2 b x := fun b x hb => u2_bank hb
      have m1 : B1 98 1 = B 98 1 := z4 98 1 (by decide)
      have k7 : B1 100 7 = B 100 7 := z3 7 (by decide)
      refine ih (n - (B2 100 2 - B 100 2).toNat) (by omega) _ (some (clo wy rw)) rw2 v _ (cnt + 1) (by rw [o1]; omega) ⟨RS_94 r1 (by omega), by rw [o1]; exact r2, by rw [o1, r3, z3 6 (by decide)]; exact p3, by rw [o1]; omega, by rw [o1]; exact r5, by rw [o90]; omega, by rw [o90, o1]; omega, fun b x b0 b1 x0 x1 => ?_, by rw [o98]; omega, fun x x0 x1 => ?_, by rw [o1]; omega⟩ ?_ (by omega) ?_ (by omega) (by omega) (by rw [o1]; omega) (by rw [o1, o1, o1]; exact go1.tr hgo2) (by rw [o1]; exact hre2) ?_ ⟨hwf, hvwf⟩ (fun s w => by cases w)
      · rw [oo b x (by omega), r8 b x b0 b1 x0 (by omega), z4 b x (by omega)]; exact p8 b x b0 b1 x0 x1
      · rw [o99, r10 x x0 (by omega), z4 99 x (by decide)]; exact p10 x x0 x1
      · show Nd _ _ (.sub (clo wy rw) rw2) _ 1 v
        unfold Nd
        rw [u2_same, o98, o90, og 93 v (by decide)]
        refine ⟨rfl, ⟨v0, v1, by rw [og 91 v (by decide)]; exact hv12.2.2⟩, by omega, ?_, ?_⟩
        · exact Nd_fr (fun x _ _ => o99 x) (Int.le_refl _) _ _ _ _ _ hNr (fun b x b0 b1 x0 x1 => oo b x x1) (Int.le_refl _)
        · exact Nd_fr (fun x x0 x1 => by rw [o99, r10 x x0 (by omega)]; exact z4 99 x (by decide)) (by omega) _ _ _ _ _ hNd (fun b x b0 b1 x0 x1 => by rw [oo b x (by omega), r8 b x b0 (by omega) x0 (by omega)]; exact z4 b x (by omega)) (by omega)
      · show _ = min (wR (clo wy rw) + wR rw2 + 1) 401
        omega
      · rw [o1]
        show _ ↔ (aT (clo wy rw) || aT rw2) = false
        rw [Bool.or_eq_false_iff]
        constructor
        · intro e
          exact ⟨hk.mp (by omega), hvk.mp (by omega)⟩
        · intro e
          have := hk.mpr e.1
          have := hvk.mpr e.2
          omega
    · obtain ⟨q1, q2, q3, q4, q5⟩ := hB
      have w97 := q1.2.2.2.2.2.2.2.1 v v0 v1
      have e97 : (u2 B2 94 v last) 97 v = B2 97 v := u2_bank (by decide)
      refine ⟨v0, v1, ?_⟩
      rw [e97]
      refine L_wayB (w := w) (by omega) (Bs := Bs) ⟨RS_94 q1 v0, by rw [u2_bank (by decide)]; exact q2, q3, by rw [u2_bank (by decide), q4, z3 6 (by decide)]; exact p3, by rw [u2_bank (by decide)]; exact q5⟩ (by omega) (by omega) (by omega) (by omega) (fun B' v' hB' v0' v1' => kB B' v' w hB' v0' v1' (hbad.go go1))
theorem R_readWays {l : Nat} (hd : 9 ≤ d) (hK : CKB B0) (hl : l ≤ 10) (hW : l < 10 → ∀ d', d ≤ d' + 5 → WySpec h1 sg B0 d' (l + 1)) : WySpec h1 sg B0 d l := by
  intro B Q hw g r hs hr kG kB
  obtain ⟨d, rfl, he⟩ := d_pos hd
  have A0 := hs.1.2.1.2.2.1
  refine y_wk (c_Re_readWays_0_ok (by omega) hs.1.1 ?_) ⟨rfl, rfl, trivial⟩
  refine R_readRow (hw := hw) (g := g) (wy := none) (r := r) (by omega) hK hs hr hl (fun hl' d' hd' => hW hl' d' (by omega)) (fun B2 v rw2 hRO hgo2 hre2 => ⟨_, rfl, hRO.1.1.1, ?_⟩) (fun B2 v w hB v0 v1 hbad => ⟨_, rfl, hB.1.1, ?_⟩)
  · obtain ⟨⟨r1, r2, r3, r4, r5, r6, r7, r8, r9, r10, r11⟩, hv12, hv94, hNr, hvN, hvw, hvk, hvwf, hvx⟩ := hRO
    have v0 := hv12.1
    have v1 := hv12.2.1
    have S2 := r1.2.2.2.2.2.1
    have wq := (wR_bd rw2 hvwf).1
    refine ⟨by omega, by omega, ?_⟩
    exact L_way (hw := hw) (g := g) (r := r) (by omega) hK hs hr hl (fun hl' d' hd' => hW hl' d' (by omega)) kG kB (200 - B2 100 2).toNat B2 none rw2 v _ 0 (by omega) ⟨r1, r2, r3, r4, r5, r6, r7, r8, r9, r10, r11⟩ (Nd_r1 hv12 hv94 hNr) (by omega) (by rw [hvw]; show _ = min (wR rw2) 401; omega) (by omega) (by decide) (by omega) hgo2 hre2 hvk hvwf hvx
  · obtain ⟨q1, q2, q3, q4, q5⟩ := hB
    have w97 := q1.2.2.2.2.2.2.2.1 v v0 v1
    refine ⟨v0, v1, ?_⟩
    exact L_wayB (w := w) (by omega) (Bs := B) ⟨q1, q2, q3, q4, q5⟩ (by decide) (by decide) (by omega) (by omega) (fun B' v' hB' v0' v1' => kB B' v' w hB' v0' v1' hbad)
theorem WyAll (hK : CKB B0) : ∀ (n l d : Nat), l + n = 10 → 9 + 5 * n ≤ d → WySpec h1 sg B0 d l := by
  intro n
  induction n with
  | zero => intro l d hl hd; exact R_readWays (by omega) hK (by omega) (fun w => absurd w (by omega))
  | succ n ih => intro l d hl hd; exact R_readWays (by omega) hK (by omega) (fun _ d' hd' => ih (l + 1) d' (by omega) (by omega))
end CRD7
