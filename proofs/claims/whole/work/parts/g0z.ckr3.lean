/-! THE CLASS'S CALLS: replace, the call -/
section KR2
variable {h1 : qH} {d : Nat} {Q : qO → qB → Prop} {C C' B B' : qB} {c0 s0 : Int} {src t a : Nat} {n rn : Int} {tx ty rd : Int → Int} {e : qT} {P : qP} {H : Int → Nat → Option Bool}
theorem cF.fr2 (h : cF C B) (f0 : ∀ x, x = 10 ∨ x = 11 → C' 0 x = C 0 x) (f : ∀ b x, b = (C 0 10).toNat ∨ b = (C 0 10).toNat + 1 → C' b x = C b x) (g : ∀ b y, b = 10 ∨ b = 11 ∨ b = 14 → B' b y = B b y) : cF C' B' := by
  obtain ⟨h7, h8⟩ := h
  have e10 := f0 10 (by omega)
  have e11 := f0 11 (by omega)
  refine ⟨by rw [e10, e11]; exact h7, ?_⟩
  rw [e10]
  unfold FO
  rw [f _ 1 (by omega), g 14 0 (by omega)]
  refine ⟨h8.1, h8.2.1, fun i i0 i1 => ?_⟩
  rw [f _ (2 * i) (by omega), f _ (2 * i + 1) (by omega), g 10 i (by omega), g 11 i (by omega)]
  exact h8.2.2 i i0 i1
set_option maxHeartbeats 4000000 in
theorem K_replace {p t : Int} (hd : 50 ≤ d) (hI : CIv c0 s0 C B) (hO : OI B) (hc : c0 + 1 ≤ 900000000) (hp : R32 p) (ht : R32 t)
    (k1 : ¬ ((0 ≤ p ∧ p ≤ 7) ∧ 0 ≤ t ∧ t ≤ 3) → ∀ C', (∀ B' : qB, Pr B B' 1 (-1) → CIv (c0 + 1) (s0 + 6) C' B') → Q (.inr "java/lang/IllegalArgumentException") C')
    (k2 : ((0 ≤ p ∧ p ≤ 7) ∧ 0 ≤ t ∧ t ≤ 3) → B 6 p = 0 → ∀ C', (∀ B' : qB, Pr B B' 2 (-1) → CIv (c0 + 1) (s0 + 6) C' B') → Q (.inr "java/util/NoSuchElementException") C')
    (k5 : ((0 ≤ p ∧ p ≤ 7) ∧ 0 ≤ t ∧ t ≤ 3) → ¬ B 6 p = 0 → 300 < B 9 t → ∀ C', (∀ B' : qB, Pr B B' 5 (-1) → CIv (c0 + 1) (s0 + 6) C' B') → Q (.inr "java/lang/IndexOutOfBoundsException") C')
    (k4 : ((0 ≤ p ∧ p ≤ 7) ∧ 0 ≤ t ∧ t ≤ 3) → ¬ B 6 p = 0 → B 9 t ≤ 300 → ∀ w, vld (B 1) (B 2 0) 1201 0 = some w → ∀ C', (∀ B' : qB, Pr B B' 4 w → CIv (c0 + 1) (s0 + 6) C' B') → Q (.inr "java/lang/UnsupportedOperationException") C')
    (k3 : ((0 ≤ p ∧ p ≤ 7) ∧ 0 ≤ t ∧ t ≤ 3) → ¬ B 6 p = 0 → B 9 t ≤ 300 → vld (B 1) (B 2 0) 1201 0 = none → 1000 < ((rpl (B 9 t) (txB B t) (tre B p) (B 1) (B 2 0) 1002 0 0).length : Int) → ∀ C', (∀ B' : qB, Pr B B' 3 (-1) → CIv (c0 + 1) (s0 + 6) C' B') → Q (.inr "java/lang/IllegalStateException") C')
    (k6 : ((0 ≤ p ∧ p ≤ 7) ∧ 0 ≤ t ∧ t ≤ 3) → ¬ B 6 p = 0 → B 9 t ≤ 300 → vld (B 1) (B 2 0) 1201 0 = none → ∀ l w, l = allM (B 9 t) (txB B t) (tre B p) 1002 0 → w = rpl (B 9 t) (txB B t) (tre B p) (B 1) (B 2 0) 1002 0 0 → (w.length : Int) ≤ 1000 → ∀ C', (∀ B' : qB, B' 2 0 = 0 → B' 3 0 = -1 → (∀ b y, Pb b y → b ≠ 2 → b ≠ 3 → b ≠ 5 → b ≠ 9 → b ≠ 10 → b ≠ 11 → b ≠ 14 → B' b y = B b y) → B' 14 0 = l.length → (∀ i : Int, 0 ≤ i → i < l.length → B' 10 i = bgn l i ∧ B' 11 i = edn l i) → B' 9 t = w.length → (∀ s, s ≠ t → B' 9 s = B 9 s) → (∀ i : Int, 0 ≤ i → i < w.length → B' 5 (1000 * t + i) = wi w i) → (∀ x, ¬ (1000 * t ≤ x ∧ x < 1000 * t + w.length) → B' 5 x = B 5 x) → CIv c0 s0 C' B') → Q (.inl (some (iv w.length))) C') : qY h1 d n_P_replace 0 [some (.ref 0), some (iv p), some (iv t), none, none, none] [] C Q := by
  obtain ⟨d, rfl, he⟩ := d_pos hd
  refine c_P_replace_0_ok (by omega) hI.1 ?_
  unfold c_P_replace_0
  refine K_take (by omega) hI (fun C1 src a1 a2 a3 a4 a5 a6 a7 => ?_)
  have I1 := a7 (u2 B 2 0 0) u2_same (fun b y _ _ q => u2_bank q)
  have b1e : ∀ b y, b ≠ 2 → (u2 B 2 0 0) b y = B b y := fun b y q => u2_bank q
  have hFd := I1.2.2.2.2.2.1
  obtain ⟨fo1, fo2⟩ := fd_ob hFd
  have h1011 := hFd.1
  refine ⟨src, rfl, a1, I1.1, ?_⟩
  -- what a refused call leaves
  have tk : ∀ (c1 s1 : Int) (C' B' : qB) (thr w : Int), SH C' → DI c1 s1 C' → (∀ b x, b < 102 → b ≠ 88 → b ≠ 89 → ¬ (b = 0 ∧ x = 12) → C' b x = C1 b x) → (∀ b x, b = (C1 0 10).toNat ∨ b = (C1 0 10).toNat + 1 → C' b x = C1 b x) → (∀ x, C' 1000000000 x = C1 1000000000 x) → bOK C' 88 → C' 0 12 = w → Pr B B' thr w → CIv c1 s1 C' B' := by
    intro c1 s1 C' B' thr w s1' s2 f ff fk o88 e hPr
    have J := a7 (fun b y => if b = 3 then B 3 y else B' b y) (by (try dsimp only); rw [if_neg (by decide)]; exact hPr.2.2.1) (fun b y q q1 q2 => by
      try dsimp only
      by_cases z : b = 3
      · rw [if_pos z, z]
      · rw [if_neg z]; exact hPr.2.2.2.2 b y q q2 z)
    obtain ⟨j1, j2, j3, j4, j5, j6, j9, j10, j11, j12⟩ := J
    have gg : ∀ b y, b ≠ 3 → B' b y = (fun b y => if b = 3 then B 3 y else B' b y) b y := fun b y q => (if_neg q).symm
    exact ⟨s1', s2, ⟨CKB_fr j3.1 fk, WtI_fr j3.2 (fun x => f _ _ (by omega) (by omega) (by omega) (by omega))⟩, j4.fr (fun b x q => f b x (by omega) (by omega) (by omega) (by omega)) (gg 2 0 (by decide)) (fun y _ _ => gg 1 y (by decide)), o88, j6.fr2 (fun x q => f _ _ (by omega) (by omega) (by omega) (by omega)) ff (fun b y q => gg b y (by omega)), by rw [e]; exact hPr.2.2.2.1.symm, j10.fr (fun x => f _ _ (by omega) (by omega) (by omega) (by omega)) (fun b y q => gg b y (by omega)), j11.fr (fun b x q => f b x (by omega) (by omega) (by omega) (by omega)) (fun b y q => gg b y (by omega)), j12.fr (fun b x q => f b x (by omega) (by omega) (by omega) (by omega)) (fun b y q => gg b y (by omega))⟩
  have o88 : bOK C1 88 := I1.2.2.2.2.1
  unfold c_P_replace_4
  have S2 : SH (u2 C1 0 12 (-1)) := SH_u2 I1.1 (by decide)
  have D2 : DI c0 s0 (u2 C1 0 12 (-1)) := DI_lo I1.2.1 (fun b x q _ => u2_bank (by omega))
  have f2 : ∀ b x, ¬ (b = 0 ∧ x = 12) → (u2 C1 0 12 (-1)) b x = C1 b x := fun b x q => by
    by_cases z : b = 0
    · subst z; exact u2_idx (by omega)
    · exact u2_bank z
  have e2 : (u2 C1 0 12 (-1)) 0 12 = -1 := u2_same
  revert S2 D2 f2 e2
  generalize u2 C1 0 12 (-1) = C2
  intro S2 D2 f2 e2
  have B2 : BY C2 src (B 2 0) (B 1) := a5.fr (f2 _ _ (by omega)) (fun i => f2 _ _ (by omega))
  have hnn := a5.2.1
  -- the states of refused calls
  have I2 : CIv c0 s0 C2 (u2 (u2 B 2 0 0) 3 0 (-1)) := CI_f3 I1 S2 D2 (fun b x _ q => f2 b x q) (WtI_fr I1.2.2.1.2 (fun x => f2 _ _ (by omega))) (fun x => f2 _ _ (by omega)) (fun b y _ q => u2_bank q) (by rw [e2]; exact u2_same.symm)
  have hO2 : ∀ b y, b ≠ 2 → b ≠ 3 → (u2 (u2 B 2 0 0) 3 0 (-1)) b y = B b y := fun b y q1 q2 => by rw [u2_bank q2, u2_bank q1]
  have rf : ∀ thr, ∀ B', Pr B B' thr (-1) → CIv (c0 + 1) (s0 + 6) (thC C2) B' := fun thr B' hPr => tk _ _ _ B' thr (-1) (SH_th S2) (DI_th D2 hc) (fun b x _ _ _ q4 => by rw [th_b (by omega)]; exact f2 b x q4) (fun b x q => by rw [th_b (by omega)]; exact f2 b x (by omega)) (fun x => by rw [th_b (by decide)]; exact f2 _ _ (by omega)) (by unfold bOK; rw [th_b (by decide), f2 _ _ (by omega)]; exact o88) (by rw [th_b (by decide)]; exact e2) hPr
  refine K_prog (by omega) S2 D2 hp (fun q => Or.inr ⟨_, rfl, k1 (by omega) _ (rf 1)⟩) (fun p0 p7 => Or.inl ⟨_, rfl, pa_ob (by omega), S2, ?_⟩)
  unfold c_P_replace_15
  refine K_text (by omega) S2 D2 ht (fun q => Or.inr ⟨_, rfl, k1 (by omega) _ (rf 1)⟩) (fun t0 t3 => Or.inl ⟨_, rfl, (tx_ob (by omega)).1, S2, ?_⟩)
  have hr : (0 ≤ p ∧ p ≤ 7) ∧ 0 ≤ t ∧ t ≤ 3 := ⟨⟨p0, p7⟩, t0, t3⟩
  have e6 : (u2 (u2 B 2 0 0) 3 0 (-1)) 6 p = B 6 p := hO2 6 p (by decide) (by decide)
  have e9 : (u2 (u2 B 2 0 0) 3 0 (-1)) 9 t = B 9 t := hO2 9 t (by decide) (by decide)
  have etr : tre (u2 (u2 B 2 0 0) 3 0 (-1)) p = tre B p := tre_eq (fun y => hO2 4 y (by decide) (by decide)) e6
  have etx : txB (u2 (u2 B 2 0 0) 3 0 (-1)) t = txB B t := funext fun q => hO2 5 _ (by decide) (by decide)
  have hpt : R32 (C2 (pa p.toNat) 10) ∧ (C2 (pa p.toNat) 10 = -1 ↔ B 6 p = 0) := by
    have hP := I2.2.2.2.2.2.2.2.2.2 p.toNat (by omega)
    unfold PG at hP
    rw [show ((p.toNat : Nat) : Int) = p by omega, e6] at hP
    by_cases z : B 6 p = 0
    · rw [(hP.1 z).1]
      exact ⟨⟨by decide, by decide⟩, fun _ => z, fun _ => rfl⟩
    · obtain ⟨g1, g2, -⟩ := hP.2 z
      have e := g1.2.2.2.2.2.1
      have w0 := (wR_bd _ g2.1).1
      have w1 := g2.2.2.2.2
      rw [e]
      exact ⟨⟨by omega, by omega⟩, fun q => by omega, fun q => absurd q z⟩
  obtain ⟨w1, w2⟩ := hpt
  obtain ⟨hX, oT, bT⟩ := tx_at I2 t0 t3
  rw [e9, etx] at hX
  have hn := hX.2.1
  rw [bT] at hn
  unfold c_P_replace_22
  refine K_pat (by omega) S2 D2 (pa_ob (by omega)) w1 (fun q => Or.inr ⟨_, rfl, k2 hr (w2.mp q) _ (rf 2)⟩) (fun q => Or.inl ⟨rfl, S2, ?_⟩)
  have h6 : ¬ B 6 p = 0 := fun z => q (w2.mpr z)
  unfold c_P_replace_29
  refine K_short (by omega) S2 D2 oT hX.ok (fun q => Or.inr ⟨_, rfl, k5 hr h6 (by rw [hX.1] at q; exact q) _ (rf 5)⟩) (fun q3 => Or.inl ⟨rfl, S2, ?_⟩)
  rw [hX.1] at q3
  unfold c_P_replace_34
  refine K_wrong (by omega) S2 a1 B2 (by omega) (fun hv => ⟨-1, rfl, S2, ?_⟩) (fun w hv hw => ⟨w, rfl, S2, ?_⟩)
  · unfold c_P_replace_39
    refine ⟨⟨by decide, by decide⟩, fun _ => ?_, fun q => absurd rfl q⟩
    have S3 : SH (u2 C2 0 12 (-1)) := SH_u2 S2 (by decide)
    have f3 : ∀ b x, (u2 C2 0 12 (-1)) b x = C2 b x := fun b x => by
      by_cases z : b = 0
      · subst z
        by_cases y : x = 12
        · subst y; rw [u2_same, e2]
        · exact u2_idx y
      · exact u2_bank z
    have e3 : u2 C2 0 12 (-1) = C2 := funext fun b => funext fun x => f3 b x
    rw [e3]
    have en : ((p.toNat : Nat) : Int) = p := by omega
    obtain ⟨P, H, u1, u2', u3, u4, u5, u6, u7, u8⟩ := PG_use (p := p.toNat) (by omega) I2 (by rw [en, e6]; exact h6) (n := B 9 t) hn.1
    rw [en, etr] at u1 u5 u6 u7 u8
    have pl := pa_le (p := p.toNat) (by omega)
    have htx : ∀ q, 0 ≤ q → q < B 9 t → txB B t q = (fun q => byA C2 (75 + 2 * t.toNat) q) q := fun q q0 q1 => (hX.at q0 q1).symm
    have n11 : C2 0 11 = (((C2 0 11).toNat : Nat) : Int) := by rw [f2 0 11 (by omega)]; omega
    have fo11 : ob 3 (C2 0 11).toNat ∧ ((C2 0 11).toNat = 108 ∨ (C2 0 11).toNat = 110) ∧ (C2 0 11).toNat ≠ (C1 0 10).toNat := by
      rw [f2 0 11 (by omega)]
      rcases h1011 with ⟨q1, q2⟩ | ⟨q1, q2⟩
      · rw [q1, q2]; exact ⟨ob110, Or.inr rfl, by decide⟩
      · rw [q1, q2]; exact ⟨ob108, Or.inl rfl, by decide⟩
    obtain ⟨d, rfl⟩ : ∃ e, d = e + 1 := ⟨d - 1, by omega⟩
    refine c_P_writeReplaced_0_ok (by omega) S2 (pa_ob (by omega)) oT a1 ?_
    unfold c_P_writeReplaced_0
    generalize hfd : (C2 0 11).toNat = fd at *
    have o88' : bOK (u2 C2 fd 1 0) 88 := by unfold bOK; rw [u2_bank (by omega), f2 _ _ (by omega)]; exact o88
    refine ⟨fo11.1, o88', ?_⟩
    have ec : cuB (u2 C2 fd 1 0) 88 0 = u2 (u2 C2 fd 1 0) 88 1 0 := by
      unfold cuB
      rw [if_pos ⟨Int.le_refl _, o88'.1⟩]
    rw [ec]
    have S4 : SH (u2 (u2 C2 fd 1 0) 88 1 0) := SH_u2 (SH_u2 S2 (by decide)) (by decide)
    have f4 : ∀ b x, b ≠ fd → b ≠ 88 → (u2 (u2 C2 fd 1 0) 88 1 0) b x = C2 b x := fun b x q1 q2 => by rw [u2_bank q2, u2_bank q1]
    have e4 : (u2 (u2 C2 fd 1 0) 88 1 0) fd 1 = 0 := by rw [u2_bank (by omega), u2_same]
    have e4' : (u2 (u2 C2 fd 1 0) 88 1 0) 88 1 = 0 := u2_same
    revert S4 f4 e4 e4'
    generalize u2 (u2 C2 fd 1 0) 88 1 0 = C4
    intro S4 f4 e4 e4'
    have D4 : DI c0 s0 C4 := DI_lo D2 (fun b x q q' => f4 b x (by omega) (by omega))
    refine R_wprep (c0 := c0) (s0 := s0) (n := B 9 t) (te := 0) (tx := fun q => byA C2 (75 + 2 * t.toNat) q) (e := tre B p) (P := P) (H := H) (Mx := 2 * (znb (tre B p) + 2)) (by omega) S4 D4 (pa_ob (by omega)) oT (Or.inl rfl) (fun j s j0 j1 => by rw [f4 _ _ (by omega) (by omega)]; exact u2' j s j0 j1) (fun s c => by rw [u3 s c, hoC_f8 (C := C2) (fun x => f4 _ _ (by omega) (by omega))]) (fun q => by unfold byA; rw [f4 _ _ (by omega) (by omega), f4 _ _ (by omega) (by omega)]) (by rw [f4 _ _ (by omega) (by omega)]; exact hX.1) hn (by rw [f4 _ _ (by omega) (by omega)]; exact u5) u6 u7 (fun C5 W5 R5 g1 g2 g3 => ⟨rfl, W5.1, ?_⟩)
    unfold c_P_writeReplaced_25
    have F5 : FrR fd C2 C5 := ⟨fun b x q => by rw [g1 b x (by omega) (by omega) (by omega) (by omega)]; exact f4 b x (by omega) (by omega), fun x => by rw [g3 x]; exact f4 _ _ (by omega) (by decide)⟩
    have len := allM_len (n := B 9 t) (tx := txB B t) (e := tre B p) 1002 0 (Int.le_refl _)
    have oT5 : OT C5 [] 1 := ⟨fun _ => ⟨rfl, by rw [g1 _ _ (by decide) (by decide) (by decide) (by decide)]; exact e4', ⟨Int.le_refl _, by rw [ob88.2]; decide⟩, fun i i0 i1 => by have : i < 0 := i1; omega⟩, fun q => absurd q (by decide)⟩
    have fr10 : ∀ C6, FrR fd C2 C6 → (∀ b x, b < 102 → b ≠ 88 → b ≠ 89 → ¬ (b = 0 ∧ x = 12) → C6 b x = C1 b x) ∧ (∀ b x, b = (C1 0 10).toNat ∨ b = (C1 0 10).toNat + 1 → C6 b x = C1 b x) ∧ (∀ x, C6 1000000000 x = C1 1000000000 x) ∧ C6 0 12 = -1 := fun C6 F6 => ⟨fun b x q1 q2 q3 q4 => by rw [F6.1 b x (by omega)]; exact f2 b x q4, fun b x q => by rw [F6.1 b x (by omega)]; exact f2 b x (by omega), fun x => by rw [F6.2 x]; exact f2 _ _ (by omega), by rw [F6.1 0 12 (by omega)]; exact e2⟩
    refine L_repl (tx := txB B t) (rd := B 1) (rn := B 2 0) (e := tre B p) (C0 := C2) (fd := fd) (L := allM (B 9 t) (txB B t) (tre B p) 1002 0) (W := rpl (B 9 t) (txB B t) (tre B p) (B 1) (B 2 0) 1002 0 0) (by omega) u8 u1 u7 u4 (by omega) ⟨hn.1, q3⟩ oT (by omega) hX ⟨fo11.1, fo11.2.1⟩ n11 htx a1 a4 B2 (by omega) (fun i i0 i1 => hO.2.1 i i0 (by omega)) hv (fun hlen C6 s6 d6 F6 o6 => ?_) (fun hlen C6 s6 d6 F6 b6 x1 x2 => ?_) 302 0 0 0 [] [] C5 (by decide) (Int.le_refl _) (by decide) rfl (Int.le_refl _) (by omega) (Int.le_refl _) (Int.le_refl _) hn.1 W5 R5 F5 (by rw [g1 _ _ (by omega) (by omega) (by omega) (by omega)]; exact e4) (fun i i0 i1 => by omega) oT5 rfl rfl
    · obtain ⟨y1, y2, y3, y4⟩ := fr10 C6 F6
      refine ⟨0, rfl, s6, ?_⟩
      unfold c_P_replace_69
      exact ⟨⟨by decide, by decide⟩, fun q => absurd rfl q, fun _ => ⟨d6.ctr, k3 hr h6 q3 hv hlen _ (fun B' hPr => tk _ _ _ B' 3 (-1) (SH_th s6) (DI_th d6 hc) (fun b x q1 q2 q3 q4 => by rw [th_b (by omega)]; exact y1 b x q1 q2 q3 q4) (fun b x q => by rw [th_b (by omega)]; exact y2 b x q) (fun x => by rw [th_b (by decide)]; exact y3 x) (by unfold bOK; rw [th_b (by decide)]; exact o6) (by rw [th_b (by decide)]; exact y4) hPr)⟩⟩
    · obtain ⟨y1, y2, y3, y4⟩ := fr10 C6 F6
      refine ⟨1, rfl, s6, ?_⟩
      unfold c_P_replace_69
      refine ⟨⟨by decide, by decide⟩, fun _ => ?_, fun q => absurd q (by decide)⟩
      refine c_P_swapFound_0_ok (by omega) s6 ?_
      unfold c_P_swapFound_0
      have z10 : C6 0 10 = C1 0 10 := y1 0 10 (by decide) (by decide) (by decide) (by omega)
      have z11 : C6 0 11 = C1 0 11 := y1 0 11 (by decide) (by decide) (by decide) (by omega)
      have fd11 : ((fd : Nat) : Int) = C1 0 11 := by rw [← f2 0 11 (by omega)]; exact n11.symm
      have n10 : (((C6 0 10).toNat : Nat) : Int) = C1 0 10 := by rw [z10]; omega
      have n11' : (((C6 0 11).toNat : Nat) : Int) = C1 0 11 := by rw [z11]; omega
      rw [n10, n11']
      have S7 : SH (u2 (u2 C6 0 10 (C1 0 11)) 0 11 (C1 0 10)) := SH_u2 (SH_u2 s6 (by decide)) (by decide)
      have f7 : ∀ b x, ¬ (b = 0 ∧ (x = 10 ∨ x = 11)) → (u2 (u2 C6 0 10 (C1 0 11)) 0 11 (C1 0 10)) b x = C6 b x := fun b x q => by
        by_cases z : b = 0
        · subst z; rw [u2_idx (by omega), u2_idx (by omega)]
        · rw [u2_bank z, u2_bank z]
      have e10 : (u2 (u2 C6 0 10 (C1 0 11)) 0 11 (C1 0 10)) 0 10 = C1 0 11 := by rw [u2_idx (by decide), u2_same]
      have e11 : (u2 (u2 C6 0 10 (C1 0 11)) 0 11 (C1 0 10)) 0 11 = C1 0 10 := u2_same
      revert S7 f7 e10 e11
      generalize u2 (u2 C6 0 10 (C1 0 11)) 0 11 (C1 0 10) = C7
      intro S7 f7 e10 e11
      refine ⟨rfl, S7, ?_⟩
      unfold c_P_replace_86
      have b7 : BY C7 88 _ _ := b6.fr (f7 _ _ (by omega)) (fun i => f7 _ _ (by omega))
      refine K_copy (by omega) S7 oT ob88.1 (by omega) b7 (by rw [bT]; exact hlen) (fun C8 s8 f8 b8 => ⟨rfl, s8, ?_⟩)
      unfold c_P_replace_95
      rw [b8.1]
      refine k6 hr h6 q3 hv _ _ rfl rfl hlen C8 (fun B' b2 b3 g b14 b10 b9 b9' b5 b5' => ?_)
      generalize hl : allM (B 9 t) (txB B t) (tre B p) 1002 0 = l at *
      generalize hw : rpl (B 9 t) (txB B t) (tre B p) (B 1) (B 2 0) 1002 0 0 = w at *
      have tn : ((t.toNat : Nat) : Int) = t := by omega
      have J := a7 (fun b y => if b = 2 then B' 2 y else B b y) (by (try dsimp only); rw [if_pos rfl]; exact b2) (fun b y _ _ q => if_neg q)
      obtain ⟨j1, j2, j3, j4, j5, j6, j9, j10, j11, j12⟩ := J
      have F : ∀ b x, b < 102 → b ≠ 88 → b ≠ 89 → ¬ (b = 0 ∧ (x = 10 ∨ x = 11 ∨ x = 12)) → b ≠ 75 + 2 * t.toNat → b ≠ 75 + 2 * t.toNat + 1 → C8 b x = C1 b x := fun b x q1 q2 q3 q4 q5 q6 => by rw [f8 b x q5 q6, f7 b x (by omega)]; exact y1 b x q1 q2 q3 (by omega)
      have gg : ∀ b y, (1 ≤ b ∧ b ≤ 11) ∨ b = 14 ∨ b = 50 ∨ b = 71 → b ≠ 3 → b ≠ 5 → b ≠ 9 → b ≠ 10 → b ≠ 11 → b ≠ 14 → B' b y = (fun b y => if b = 2 then B' 2 y else B b y) b y := fun b y q q3 q5 q9 q10 q11 q14 => by
        try dsimp only
        by_cases z : b = 2
        · rw [if_pos z, z]
        · rw [if_neg z]; exact g b y q z q3 q5 q9 q10 q11 q14
      have fdn : (C8 0 10).toNat = fd := by rw [f8 0 10 (by omega) (by omega), e10]; omega
      refine ⟨s8, DI_lo d6 (fun b x q _ => by rw [f8 b x (by omega) (by omega)]; exact f7 b x (by omega)), ⟨CKB_fr j3.1 (fun x => by rw [f8 _ x (by omega) (by omega), f7 _ x (by omega)]; exact y3 x), WtI_fr j3.2 (fun x => F _ _ (by omega) (by omega) (by omega) (by omega) (by omega) (by omega))⟩, j4.fr (fun b x q => F b x (by omega) (by omega) (by omega) (by omega) (by omega) (by omega)) (gg 2 0 (by omega) (by decide) (by decide) (by decide) (by decide) (by decide) (by decide)) (fun y _ _ => gg 1 y (by omega) (by decide) (by decide) (by decide) (by decide) (by decide) (by decide)), ?_, ⟨?_, ?_⟩, ?_, j10.fr (fun x => F _ _ (by omega) (by omega) (by omega) (by omega) (by omega) (by omega)) (fun b y q => gg b y (by omega) (by omega) (by omega) (by omega) (by omega) (by omega) (by omega)), fun s hs => ?_, j12.fr (fun b x q => F b x (by omega) (by omega) (by omega) (by omega) (by omega) (by omega)) (fun b y q => gg b y (by omega) (by omega) (by omega) (by omega) (by omega) (by omega) (by omega))⟩
      · unfold bOK
        rw [f8 _ _ (by omega) (by omega)]
        exact b7.ok
      · rw [f8 0 10 (by omega) (by omega), f8 0 11 (by omega) (by omega), e10, e11]
        omega
      · rw [fdn]
        unfold FO
        rw [b14]
        have c7 : ∀ b x, b = fd ∨ b = fd + 1 → C8 b x = C6 b x := fun b x q => by rw [f8 b x (by omega) (by omega)]; exact f7 b x (by omega)
        refine ⟨by rw [c7 _ _ (Or.inl rfl)]; exact x1, ⟨by omega, by omega⟩, fun i i0 i1 => ?_⟩
        have q1 := x2 i i0 i1
        have q2 := b10 i i0 i1
        rw [c7 _ _ (Or.inr rfl), c7 _ _ (Or.inr rfl), q1.1, q1.2, q2.1, q2.2]
        exact ⟨rfl, rfl⟩
      · rw [f8 0 12 (by omega) (by omega), f7 0 12 (by omega), y4]
        exact b3.symm
      · by_cases z : s = t.toNat
        · subst z
          rw [tn, b9]
          exact b8.im (fun i i0 i1 => b5 i i0 i1)
        · have hs1 := j11 s hs
          have hb := hs1.2.1.2
          rw [(tx_ob hs).2] at hb
          rw [b9' (s : Int) (by omega)]
          have e9s : (fun b y => if b = 2 then B' 2 y else B b y) 9 (s : Int) = B 9 (s : Int) := if_neg (by decide)
          rw [e9s] at hs1 hb
          refine (hs1.fr (F _ _ (by omega) (by omega) (by omega) (by omega) (by omega) (by omega)) (fun i => F _ _ (by omega) (by omega) (by omega) (by omega) (by omega) (by omega))).im (fun i i0 i1 => ?_)
          unfold txB
          rw [b5' _ (by omega)]
          exact (if_neg (by decide) : (if (5 : Nat) = 2 then B' 2 (1000 * (s : Int) + i) else B 5 (1000 * (s : Int) + i)) = _).symm
  · unfold c_P_replace_39
    refine ⟨⟨by omega, by omega⟩, fun q => by omega, fun _ => ?_⟩
    have S3 : SH (u2 C2 0 12 w) := SH_u2 S2 (by decide)
    have D3 : DI c0 s0 (u2 C2 0 12 w) := DI_lo D2 (fun b x q _ => u2_bank (by omega))
    have f3 : ∀ b x, ¬ (b = 0 ∧ x = 12) → (u2 C2 0 12 w) b x = C1 b x := fun b x q => by
      rw [← f2 b x q]
      by_cases z : b = 0
      · subst z; exact u2_idx (by omega)
      · exact u2_bank z
    have e3 : (u2 C2 0 12 w) 0 12 = w := u2_same
    exact ⟨D3.ctr, k4 hr h6 q3 w hv _ (fun B' hPr => tk _ _ _ B' 4 w (SH_th S3) (DI_th D3 hc) (fun b x _ _ _ q4 => by rw [th_b (by omega)]; exact f3 b x q4) (fun b x q => by rw [th_b (by omega)]; exact f3 b x (by omega)) (fun x => by rw [th_b (by decide)]; exact f3 _ _ (by omega)) (by unfold bOK; rw [th_b (by decide), f3 _ _ (by omega)]; exact o88) (by rw [th_b (by decide)]; exact e3) hPr)⟩
end KR2
