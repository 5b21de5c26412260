/-! THE CLASS'S BUILDER: a program -/
/-- how many steps a weight bears -/
theorem stc_w : ∀ e : qT, wf e → ∀ (B : qB) (M N m q : Int), Nd B M e N m q → wR e ≤ 400 → 2 * stc e ≤ 3 * wR e ∧ (qat e = true → 2 * stc e + 1 ≤ 3 * wR e) := by
  intro e
  induction e with
  | num k =>
    intro hw B M N m q hN h
    refine ⟨?_, fun w => by cases w⟩
    unfold stc wR
    split <;> omega
  | var s => intro hw B M N m q hN h; exact ⟨(by decide : (2 : Int) * 1 ≤ 3 * 1), fun _ => (by decide : (2 : Int) * 1 + 1 ≤ 3 * 1)⟩
  | add a b ha hb =>
    intro hw B M N m q hN h
    have w1 := wR_bd a hw.1
    have w2 := wR_bd b hw.2
    rw [wR] at h
    have := ha hw.1 _ _ _ _ _ hN.2.2.2 (by omega)
    have := hb hw.2 _ _ _ _ _ hN.2.2.1 (by omega)
    refine ⟨?_, fun w => by cases w⟩
    rw [stc, wR]
    omega
  | sub a b ha hb =>
    intro hw B M N m q hN h
    have w1 := wR_bd a hw.1
    have w2 := wR_bd b hw.2
    rw [wR] at h
    have := ha hw.1 _ _ _ _ _ hN.2.2.2.2 (by omega)
    have := hb hw.2 _ _ _ _ _ hN.2.2.2.1 (by omega)
    refine ⟨?_, fun w => by cases w⟩
    rw [stc, wR]
    omega
  | neg a ha =>
    intro hw B M N m q hN h
    rw [wR] at h
    have := ha hw _ _ _ _ _ hN.2.2.2 (by omega)
    rw [stc, wR]
    exact ⟨by omega, fun _ => by omega⟩
  | mulL k a ha =>
    intro hw B M N m q hN h
    have w1 := wR_bd a hw.2.2
    rw [wR] at h
    have := ha hw.2.2 _ _ _ _ _ hN.2.2.2.2 (by split at h <;> omega)
    rw [stc, wR]
    by_cases hk : 1 ≤ k
    · rw [if_pos hk]; exact ⟨by omega, fun _ => by omega⟩
    · rw [if_neg hk]
      refine ⟨by omega, fun w => absurd w ?_⟩
      show ¬ decide (1 ≤ k) = true
      rw [decide_eq_false hk]; decide
  | mulR a k ha =>
    intro hw B M N m q hN h
    obtain ⟨g1, g2, g3, g4, g5, g6, g7⟩ := hw
    have w1 := wR_bd a g7
    have hqa := hN.2.2.2.2.2.1
    have hw' : (if wRep (wR a) k < 100000 then wRep (wR a) k else 100000) ≤ 400 := h
    have hwr : wRep (wR a) k ≤ 400 := by split at hw' <;> omega
    have hwe : wR (.mulR a k) = wRep (wR a) k := by
      show (if wRep (wR a) k < 100000 then wRep (wR a) k else 100000) = _
      rw [if_pos (by omega)]
    refine ⟨?_, fun w => by cases w⟩
    rw [hwe, stc]
    unfold wRep at hwr ⊢
    have a1 := Int.mul_nonneg g1 w1.1
    have e5 : 0 ≤ (if rg k = 2 then (1 : Int) else 0) := by split <;> omega
    generalize (if rg k = 2 then (1 : Int) else 0) = kp at hwr e5
    by_cases hh : rh k < 0
    · simp only [if_pos hh] at hwr ⊢
      have ih := (ha g7 _ _ _ _ _ hN.2.2.2.2.2.2 (by omega)).2 hqa
      have m1 : rl k * (2 * stc a) ≤ rl k * (3 * wR a) := Int.mul_le_mul_of_nonneg_left (by omega) g1
      rw [Int.mul_left_comm, Int.mul_left_comm (rl k) 3] at m1
      omega
    · simp only [if_neg hh] at hwr ⊢
      have r0 : 0 ≤ rh k - rl k := by omega
      have b0 : 0 ≤ (rh k - rl k) * (wR a + 1) := Int.mul_nonneg r0 (by omega)
      by_cases hz : rl k = 0 ∧ rh k = 0
      · rw [hz.1, hz.2]
        simp only [Int.zero_mul, Int.sub_zero]
        omega
      · have hwa : wR a ≤ 400 := by
          by_cases hl : rl k = 0
          · have : 1 ≤ rh k - rl k := by omega
            have := Int.mul_le_mul_of_nonneg_right this (show 0 ≤ wR a + 1 by omega)
            omega
          · have : 1 ≤ rl k := by omega
            have := Int.mul_le_mul_of_nonneg_right this w1.1
            omega
        have ih := (ha g7 _ _ _ _ _ hN.2.2.2.2.2.2 hwa).2 hqa
        have m1 : rl k * (2 * stc a) ≤ rl k * (3 * wR a) := Int.mul_le_mul_of_nonneg_left (by omega) g1
        rw [Int.mul_left_comm, Int.mul_left_comm (rl k) 3] at m1
        have n1 : (rh k - rl k) * (2 * (stc a + 1)) ≤ (rh k - rl k) * (3 * (wR a + 1)) := Int.mul_le_mul_of_nonneg_left (by omega) r0
        rw [Int.mul_left_comm, Int.mul_left_comm (rh k - rl k) 3] at n1
        omega
theorem Nd_kd {B : qB} {M N q : Int} {e : qT} (h : Nd B M e N 2 q) (hw : wf e) : R32 (B 91 q) ∧ (B 91 q = 2 → ∃ σ, e = .var σ) := by
  cases e with
  | num k =>
    unfold Nd at h; rw [if_pos rfl] at h
    have hw : 0 ≤ k ∧ k ≤ 4 := hw
    have := h.2.2.2
    have := h.1
    exact ⟨⟨by omega, by omega⟩, fun w => absurd w (by omega)⟩
  | var s =>
    unfold Nd at h
    have : B 91 q = 1 ∨ B 91 q = 2 := by
      rcases h.2 with w | w
      · exact Or.inl w.1.2.2
      · exact Or.inr w.1.2.2
    exact ⟨⟨by omega, by omega⟩, fun _ => ⟨s, rfl⟩⟩
  | add a b => exact absurd rfl h.1
  | sub a b => exact absurd h.1 (by decide)
  | neg a => have := h.2.1.2.2; exact ⟨⟨by omega, by omega⟩, fun w => absurd w (by omega)⟩
  | mulL k a =>
    have e := h.2.1.2.2
    have : B 91 q = 9 ∨ B 91 q = 7 ∨ B 91 q = 8 := by
      by_cases hk : 1 ≤ k
      · rw [if_pos hk] at e; exact Or.inl e
      · rw [if_neg hk] at e; split at e <;> omega
    exact ⟨⟨by omega, by omega⟩, fun w => absurd w (by omega)⟩
  | mulR a k => have := h.2.1.2.2; exact ⟨⟨by omega, by omega⟩, fun w => absurd w (by omega)⟩
theorem Nd_r0 {B : qB} {M N q : Int} {e : qT} (h : Nd B M e N 0 q) : (0 ≤ q ∧ (q < N ∨ q = 0)) ∧ (q = 0 → e = .num 0) ∧ (e = .num 0 → q = 0) := by
  cases e with
  | num k =>
    unfold Nd at h; rw [if_neg (by decide), if_pos rfl] at h
    obtain ⟨rfl, rfl⟩ := h
    exact ⟨⟨by decide, Or.inr rfl⟩, fun _ => rfl, fun _ => rfl⟩
  | add x y =>
    have g5 := h.2.2.1
    rw [if_neg (by decide)] at g5
    have e2 : nrr B 0 q = q := by unfold nrr; rw [if_neg (by decide)]
    rw [e2] at g5
    have := Nd_part g5
    exact ⟨⟨by omega, Or.inl this.2⟩, fun w => by omega, fun w => by cases w⟩
  | var s => exact absurd h.1 (by decide)
  | sub a b => exact absurd h.1 (by decide)
  | neg a => exact absurd h.1 (by decide)
  | mulL k a => exact absurd h.1 (by decide)
  | mulR a k => exact absurd h.1 (by decide)
theorem os_lem {B : qB} {M N w : Int} {e : qT} (h : Nd B M e N 1 w) (hw : wf e) (hN : N ≤ 408) : (0 ≤ B 93 w ∧ B 93 w < 408) ∧ (¬ B 93 w = 0 → R32 (B 94 w) ∧ (B 94 w = 0 → R32 (B 94 (B 93 w)) ∧ R32 (B 91 (B 93 w)))) ∧ (∀ σ, e = .add (.num 0) (.var σ) → ¬ B 93 w = 0 ∧ B 94 w = 0 ∧ B 94 (B 93 w) = 0 ∧ (B 91 (B 93 w) = 2 → 0 ≤ B 92 (B 93 w) ∧ B 92 (B 93 w) < M ∧ ∀ c : Nat, c < 256 → σ.testBit c = hoC B 98 (B 92 (B 93 w)) c)) ∧ (¬ (∃ σ, e = .add (.num 0) (.var σ)) → ¬ (¬ B 93 w = 0 ∧ B 94 w = 0 ∧ B 94 (B 93 w) = 0 ∧ B 91 (B 93 w) = 2)) := by
  cases e with
  | num k =>
    unfold Nd at h; rw [if_neg (by decide), if_neg (by decide)] at h
    have e0 := h.2.2.2
    exact ⟨by omega, fun w => absurd e0 w, fun σ w => (by cases w), fun _ w => w.1 e0⟩
  | add x y =>
    obtain ⟨n1, n2, n3, n4⟩ := h
    have g := n2 rfl
    have e2 : nrr B 1 w = B 93 w := by unfold nrr; rw [if_pos rfl]
    rw [if_pos rfl, e2] at n3
    rw [e2] at n4
    have pb := Nd_part n3
    have kd := Nd_kd n3 hw.2
    have r0 := Nd_r0 n4
    have wb := g.1.2.1
    refine ⟨by omega, fun _ => ⟨by rw [g.2]; exact ⟨by decide, by decide⟩, fun _ => ⟨⟨by omega, by omega⟩, kd.1⟩⟩, fun σ hσ => ?_, fun hn hh => ?_⟩
    · have hx : x = .num 0 := by injection hσ
      have hy : y = .var σ := by injection hσ
      refine ⟨by omega, g.2, r0.2.2 hx, fun k2 => ?_⟩
      rw [hy] at n3
      rcases n3.2 with w1 | w1
      · have := w1.1.2.2; omega
      · exact w1.2
    · obtain ⟨σ, hσ⟩ := kd.2 hh.2.2.2
      exact hn ⟨σ, by rw [hσ, r0.2.1 hh.2.2.1]⟩
  | sub x y =>
    obtain ⟨n1, n2, n3, n4, n5⟩ := h
    have wb := n2.2.1
    have w0 := n2.1
    have r0 := Nd_r0 n4
    have pw := Nd_way n5
    exact ⟨by omega, fun _ => ⟨⟨by omega, by omega⟩, fun w => absurd w n3⟩, fun σ w => (by cases w), fun _ w => n3 w.2.1⟩
  | var s => exact absurd h.1 (by decide)
  | neg a => exact absurd h.1 (by decide)
  | mulL k a => exact absurd h.1 (by decide)
  | mulR a k => exact absurd h.1 (by decide)
/-- the sets may be told otherwise -/
theorem Ly_H {P : qP} {H H' : Int → Nat → Option Bool} {N0 N : Int} (hH : ∀ s (c : Nat) (b : Bool), 0 ≤ s → s < 200 → c < 256 → H s c = some b → H' s c = some b) : ∀ (e : qT) (lv m s n d al : Int), Ly P H N0 N e lv m s n d al → Ly P H' N0 N e lv m s n d al := by
  intro e
  induction e with
  | num k => intro lv m s n d al h; exact h
  | var σ =>
    intro lv m s n d al h
    rcases h with h | ⟨g1, g2, g3, g4⟩
    · exact Or.inl h
    · exact Or.inr ⟨g1, g2, g3, fun c hc => hH _ c _ g2 g3 hc (g4 c hc)⟩
  | add x y hx hy =>
    intro lv m s n d al h
    obtain ⟨s1, t, g1, g2, g3⟩ := h
    exact ⟨s1, t, g1, hx _ _ _ _ _ _ g2, hy _ _ _ _ _ _ g3⟩
  | sub x y hx hy =>
    intro lv m s n d al h
    obtain ⟨t, g1, g2⟩ := h
    exact ⟨t, hy _ _ _ _ _ _ g1, hx _ _ _ _ _ _ g2⟩
  | neg x hx => intro lv m s n d al h; exact hx _ _ _ _ _ _ h
  | mulL k x hx =>
    intro lv m s n d al h
    unfold Ly at h ⊢
    by_cases hk : 1 ≤ k
    · rw [if_pos hk] at h ⊢
      obtain ⟨t, u, g1, g2, g3⟩ := h
      exact ⟨t, u, g1, hx _ _ _ _ _ _ g2, g3⟩
    · rw [if_neg hk] at h ⊢
      obtain ⟨t, g1, g2⟩ := h
      exact ⟨t, g1, hx _ _ _ _ _ _ g2⟩
  | mulR x k hx =>
    intro lv m s n d al h
    unfold Ly at h ⊢
    by_cases hk : rg k = 2
    · rw [if_pos hk] at h ⊢
      obtain ⟨t, g1, g2⟩ := h
      exact ⟨t, g1, LyR_fr (fun _ _ _ _ _ _ => rfl) (Int.le_refl _) (Int.le_refl _) (fun s n d w => hx _ _ _ _ _ _ w) g2⟩
    · rw [if_neg hk] at h ⊢
      exact LyR_fr (fun _ _ _ _ _ _ => rfl) (Int.le_refl _) (Int.le_refl _) (fun s n d w => hx _ _ _ _ _ _ w) h
/-- a program for a tree -/
def PgI (B : qB) (a : Nat) (e : qT) (gr : Int) : Prop := (∃ I, Ly (pvw B a I) (fun s c => some (hoC B (a + 7) s c)) 1 (B a 7) e 0 0 (B a 9) 0 0 0) ∧ B a 7 = 1 + stc e ∧ B a 7 ≤ 608 ∧ B a 8 = spc e ∧ SlI B a ∧ B a 10 = wR e ∧ B a 11 = gr ∧ (0 ≤ gr ∧ gr ≤ 9) ∧ wf e ∧ wR e ≤ 400 ∧ bkd e ≤ 10
/-- the set that is alone in a pattern -/
def OnS (sg : Int → Int) (B : qB) (a : Nat) (e : qT) : Prop := (∀ σ, e = .add (.num 0) (.var σ) → sKS sg 0 → 0 ≤ B a 12 ∧ B a 12 < 200 ∧ ∀ c : Nat, c < 256 → σ.testBit c = hoC B (a + 7) (B a 12) c) ∧ (¬ (∃ σ, e = .add (.num 0) (.var σ) ∧ sKS sg 0) → B a 12 = -1)
theorem pc_facts {B : qB} {a : Nat} : pcC B a a 7 = 1 ∧ pcC B a a 8 = 0 ∧ (∀ x, x ≠ 7 → x ≠ 8 → pcC B a a x = B a x) ∧ (∀ b x, ¬ (a ≤ b ∧ b ≤ a + 6) → pcC B a b x = B b x) ∧ pcC B a (a + 6) 0 = 0 ∧ pcC B a (a + 1) 0 = 18 := by
  have e7 : (u2 (u2 B a 7 0) a 8 0) a 7 = 0 := by rw [u2_idx (by decide), u2_same]
  have e8 : (u2 (u2 B a 7 0) a 8 0) a 8 = 0 := u2_same
  unfold pcC
  refine ⟨by rw [paC_a, if_pos rfl, e7]; rfl, by rw [paC_a, if_neg (by decide), if_pos rfl, e8]; rfl, fun x h7 h8 => by rw [paC_a, if_neg h7, if_neg h8, u2_idx h8, u2_idx h7], fun b x q => by rw [paC_o b x q, u2_bank (by omega), u2_bank (by omega)], ?_, ?_⟩
  · rw [paC_j 6 0 (by decide) (by decide), e7, if_pos rfl]
    exact e8
  · rw [paC_j 1 0 (by decide) (by decide), e7, if_pos rfl]
    rfl
theorem pg101 {a : Nat} (h : ob 5 a) : a + 8 < 75 := pr_lt h
section BD5
variable {h1 : qH} {d : Nat} {Q : qO → qB → Prop} {B : qB}
theorem R_build {a : Nat} {sg : Int → Int} {e : qT} {gr : Int} (hd : 110 ≤ d) (hS : SH B) (ha : ob 5 a) (hT : RdT sg B e) (hw : wR e ≤ 400) (hg : 0 ≤ gr ∧ gr ≤ 9)
    (k : ∀ B', SH B' → (∀ b x, ¬ (a ≤ b ∧ b ≤ a + 8) → b ≠ 101 → B' b x = B b x) → PgI B' a e gr → OnS sg B' a e → Q (.inl none) B') : qY h1 d n_Bu_build 0 [some (.ref 101), some (.ref a), some (iv (B 100 4)), some (iv gr), none] [] B Q := by
  obtain ⟨d, rfl, he⟩ := d_pos hd
  obtain ⟨d, rfl⟩ : ∃ d', d = d' + 1 := ⟨d - 1, by omega⟩
  obtain ⟨hOs, hR13, hRN, hRw, hsz, hmm, hwf, hln, hbk⟩ := hT
  have hpl := pr_lt ha
  have r0 := hR13.1
  have r1 := hR13.2.1
  refine y_wk (c_Bu_build_0_ok (by omega) hS ha ?_) ⟨rfl, rfl, rfl, rfl, trivial⟩
  unfold c_Bu_build_0
  rw [Int.toNat_natCast]
  refine ⟨ha, ?_⟩
  have pf := pc_facts (B := u2 B 101 1 ((a : Nat) : Int)) (a := a)
  have hS1 : SH (pcC (u2 B 101 1 ((a : Nat) : Int)) a) := S_Pr_clear (SH_u2 hS (by decide))
  generalize hB1 : pcC (u2 B 101 1 ((a : Nat) : Int)) a = B1 at pf hS1
  obtain ⟨f7, f8, fa, fo, f6, f1⟩ := pf
  have fo' : ∀ b x, ¬ (a ≤ b ∧ b ≤ a + 6) → b ≠ 101 → B1 b x = B b x := fun b x q1 q2 => by rw [fo b x q1, u2_bank q2]
  have b1 : BSt B1 a := by
    refine ⟨hS1, ha, by rw [fo 101 1 (by omega), u2_same], by omega, by omega, fun s s0 s1 => ?_, fun s s' s0 ss s1 => ?_⟩
    · have : s = 0 := by omega
      subst this
      rw [f6, f1, f8]; decide
    · omega
  have hN1 : Nd B1 (B 98 1) e (B 100 4) 1 (B1 93 (B 100 4)) := by
    rw [fo' 93 _ (by omega) (by decide)]
    exact Nd_fr (fun x _ _ => fo' 99 x (by omega) (by decide)) (Int.le_refl _) _ _ _ _ _ hRN (fun b x b0 b1 _ _ => fo' b x (by omega) (by omega)) (Int.le_refl _)
  have hst := (stc_w e hwf _ _ _ _ _ hRN hw).1
  have snn := stc_nn e hwf
  have b0 := bkd_nn e
  have ho1 : ∀ s c, hoC B1 98 s c = hoC B 98 s c := fun s c => by
    unfold hoC
    rw [fo' 99 _ (by omega) (by decide)]
  have hH : HSt B1 (B 98 1) (fun s c => if s < B 98 1 then some (hoC B 98 s c) else none) := fun s c _ s1 _ => by
    show (if s < B 98 1 then some (hoC B 98 s c) else none) = _
    rw [if_pos s1, ho1]
  refine (Bu_all e).2.2.2 (d + 1) _ a B1 (fun _ => 0) (fun s c => if s < B 98 1 then some (hoC B 98 s c) else none) (B 98 1) (B 100 4) (B 100 4) 0 0 0 0 (by omega) ⟨b1, hH, by omega, hmm.2, hwf, ⟨by decide, by omega⟩, by decide, hln⟩ (by omega) (by omega) hN1 (by omega) hln (fun B2 I2 v hE hB2 z7 z8 hL => ⟨v, rfl, hB2.1, ?_⟩)
  rw [if_neg (by decide)] at z7 z8
  unfold c_Bu_build_20
  rw [toN hB2]
  refine ⟨ha, ?_⟩
  have o2 : ∀ b x, ¬ (a ≤ b ∧ b ≤ a + 6) → b ≠ 101 → B2 b x = B b x := fun b x q1 q2 => (hE.1 b x q1).trans (fo' b x q1 q2)
  refine c_Pr_finish_0_ok (by omega) hB2.1 ha ?_
  unfold c_Pr_finish_0
  have o98 : ∀ x, (u2 B2 a 9 v) 98 x = B 98 x := fun x => by rw [u2_bank (by omega)]; exact o2 98 x (by omega) (by decide)
  have o99 : ∀ x, (u2 B2 a 9 v) 99 x = B 99 x := fun x => by rw [u2_bank (by omega)]; exact o2 99 x (by omega) (by decide)
  have sc_o : ∀ b x, b ≠ a + 7 → b ≠ a + 8 → scC (u2 B2 a 9 v) (a + 7) 98 b x = (u2 B2 a 9 v) b x := fun b x q1 q2 => by
    unfold scC cpC
    rw [u2_bank q1, if_neg (fun w => q2 w.1)]
  have sc_8 : ∀ x, 0 ≤ x → x < 8 * B 98 1 → scC (u2 B2 a 9 v) (a + 7) 98 (a + 8) x = B 99 x := fun x x0 x1 => by
    unfold scC cpC
    rw [u2_bank (by omega), if_pos ⟨rfl, by omega, by rw [o98]; omega⟩, show x - 0 + 0 = x by omega]
    exact o99 x
  have hS3 : SH (scC (u2 B2 a 9 v) (a + 7) 98) := S_Se_copy (SH_u2 hB2.1 (by decide)) (ob57 ha) ⟨by decide, by decide, by decide⟩ (by rw [o98]; exact hmm.1) (by rw [o98]; exact hmm.2)
  generalize scC (u2 B2 a 9 v) (a + 7) 98 = B3 at sc_o sc_8 hS3
  have o3 : ∀ b x, 91 ≤ b → b ≤ 99 → B3 b x = B b x := fun b x b0 b1 => by rw [sc_o b x (by omega) (by omega), u2_bank (by omega)]; exact o2 b x (by omega) (by omega)
  have p3 : ∀ j x, 1 ≤ j → j ≤ 6 → B3 (a + j) x = B2 (a + j) x := fun j x j0 j1 => by rw [sc_o (a + j) x (by omega) (by omega), u2_bank (by omega)]
  have a3 : ∀ x, x ≠ 9 → B3 a x = B2 a x := fun x hx => by rw [sc_o a x (by omega) (by omega), u2_idx hx]
  have a39 : B3 a 9 = v := by rw [sc_o a 9 (by omega) (by omega), u2_same]
  rw [o3 97 _ (by decide) (by decide), hRw, show min (wR e) 401 = wR e by omega]
  have wn := (wR_bd e hwf).1
  have o4 : ∀ b x, b ≠ a → (u2 (u2 B3 a 10 (wR e)) a 11 gr) b x = B3 b x := fun b x q => by rw [u2_bank q, u2_bank q]
  have o4' : ∀ b x, 91 ≤ b → b ≤ 99 → (u2 (u2 B3 a 10 (wR e)) a 11 gr) b x = B b x := fun b x b0 b1 => by rw [o4 b x (by omega)]; exact o3 b x b0 b1
  have x93 : ∀ y, (u2 (u2 B3 a 10 (wR e)) a 11 gr) 93 y = B 93 y := fun y => o4' 93 y (by decide) (by decide)
  have x94 : ∀ y, (u2 (u2 B3 a 10 (wR e)) a 11 gr) 94 y = B 94 y := fun y => o4' 94 y (by decide) (by decide)
  have x91 : ∀ y, (u2 (u2 B3 a 10 (wR e)) a 11 gr) 91 y = B 91 y := fun y => o4' 91 y (by decide) (by decide)
  have x92 : ∀ y, (u2 (u2 B3 a 10 (wR e)) a 11 gr) 92 y = B 92 y := fun y => o4' 92 y (by decide) (by decide)
  have hrow := Nd_way hRN
  obtain ⟨l1, l2, l3, l4⟩ := os_lem hRN hwf (by omega)
  have hosO : osO (u2 (u2 B3 a 10 (wR e)) a 11 gr) (B 100 4) := by
    unfold osO
    simp only [x93, x94, x91]
    exact ⟨by omega, by omega, by omega, by omega, l1.1, l1.2, l2⟩
  refine ⟨by rw [o98]; exact hmm.1, by rw [o98]; exact hmm.2, by omega, by omega, hosO, ?_⟩
  have hosV : osV (u2 (u2 B3 a 10 (wR e)) a 11 gr) (B 100 4) = osV B (B 100 4) := by
    unfold osV
    simp only [x93, x94, x91, x92]
  rw [hosV]
  have w0 : ∀ b x, b ≠ a → (u2 (u2 (u2 B3 a 10 (wR e)) a 11 gr) a 12 (osV B (B 100 4))) b x = B3 b x := fun b x q => by rw [u2_bank q]; exact o4 b x q
  have w12 : (u2 (u2 (u2 B3 a 10 (wR e)) a 11 gr) a 12 (osV B (B 100 4))) a 12 = osV B (B 100 4) := u2_same
  have w11 : (u2 (u2 (u2 B3 a 10 (wR e)) a 11 gr) a 12 (osV B (B 100 4))) a 11 = gr := by rw [u2_idx (by decide), u2_same]
  have w10 : (u2 (u2 (u2 B3 a 10 (wR e)) a 11 gr) a 12 (osV B (B 100 4))) a 10 = wR e := by rw [u2_idx (by decide), u2_idx (by decide), u2_same]
  have wx : ∀ x, x < 10 → (u2 (u2 (u2 B3 a 10 (wR e)) a 11 gr) a 12 (osV B (B 100 4))) a x = B3 a x := fun x hx => by rw [u2_idx (by omega), u2_idx (by omega), u2_idx (by omega)]
  have wS : SH (u2 (u2 (u2 B3 a 10 (wR e)) a 11 gr) a 12 (osV B (B 100 4))) := SH_u2 (SH_u2 (SH_u2 hS3 (by decide)) (by decide)) (by decide)
  generalize u2 (u2 (u2 B3 a 10 (wR e)) a 11 gr) a 12 (osV B (B 100 4)) = B4 at w0 w12 w11 w10 wx wS
  have ho4 : ∀ s (c : Nat), 0 ≤ s → s < B 98 1 → c < 256 → hoC B4 (a + 7) s c = hoC B 98 s c := fun s c s0 s1 hc => by
    rw [hoC_eq (by omega) (by omega), hoC_eq (by omega) (by omega)]
    rw [show a + 7 + 1 = a + 8 by omega, w0 (a + 8) _ (by omega), sc_8 _ (by omega) (by omega)]
  refine ⟨rfl, wS, k B4 wS (fun b x q1 q2 => ?_) ⟨⟨I2, ?_⟩, ?_, ?_, ?_, ?_, w10, w11, hg, hwf, hw, hbk⟩ ⟨fun σ hσ hsk => ?_, fun hn => ?_⟩⟩
  · rw [w0 b x (by omega), sc_o b x (by omega) (by omega), u2_bank (by omega)]
    exact o2 b x (by omega) q2
  · have q7 : B4 a 7 = B2 a 7 := by rw [wx 7 (by decide)]; exact a3 7 (by decide)
    have q9 : B4 a 9 = v := by rw [wx 9 (by decide)]; exact a39
    rw [q7, q9]
    have L1 := Ly_fr (P' := pvw B4 a I2) (N0' := 1) (N' := B2 a 7) (fun j s j0 j1 s0 s1 => by
      unfold pvw
      split
      · rfl
      · rw [w0 (a + j) s (by omega)]; exact p3 j s j0 (by omega)) (by omega) (Int.le_refl _) _ _ _ _ _ _ _ hL
    refine Ly_H (fun s c b s0 s1 hc hb => ?_) _ _ _ _ _ _ _ L1
    by_cases hs : s < B 98 1
    · rw [if_pos hs] at hb
      rw [ho4 s c s0 hs hc]
      exact hb
    · rw [if_neg hs] at hb; cases hb
  · rw [wx 7 (by decide), a3 7 (by decide)]; omega
  · rw [wx 7 (by decide), a3 7 (by decide)]; omega
  · rw [wx 8 (by decide), a3 8 (by decide)]; omega
  · have q7 : B4 a 7 = B2 a 7 := by rw [wx 7 (by decide)]; exact a3 7 (by decide)
    have q8 : B4 a 8 = B2 a 8 := by rw [wx 8 (by decide)]; exact a3 8 (by decide)
    have q1 : ∀ s, B4 (a + 1) s = B2 (a + 1) s := fun s => by rw [w0 (a + 1) s (by omega)]; exact p3 1 s (by decide) (by decide)
    have q6 : ∀ s, B4 (a + 6) s = B2 (a + 6) s := fun s => by rw [w0 (a + 6) s (by omega)]; exact p3 6 s (by decide) (by decide)
    refine ⟨fun s s0 s1 => ?_, fun s s' s0 ss s1 => ?_⟩
    · rw [q7] at s1; rw [q6, q1, q8]; exact hB2.2.2.2.2.2.1 s s0 s1
    · rw [q7] at s1; rw [q6, q1, q6]; exact hB2.2.2.2.2.2.2 s s' s0 ss s1
  · obtain ⟨m1, m2, m3, m4⟩ := l3 σ hσ
    have k2 := (hOs σ hσ).mpr hsk
    obtain ⟨m5, m6, m7⟩ := m4 k2
    have eV : osV B (B 100 4) = B 92 (B 93 (B 93 (B 100 4))) := by unfold osV; rw [if_pos ⟨m1, m2, m3, k2⟩]
    rw [w12, eV]
    exact ⟨m5, by omega, fun c hc => by rw [m7 c hc]; exact (ho4 _ c m5 m6 hc).symm⟩
  · rw [w12]
    unfold osV
    rw [if_neg (fun w => ?_)]
    by_cases hσ : ∃ σ, e = .add (.num 0) (.var σ)
    · obtain ⟨σ, hσ⟩ := hσ
      exact hn ⟨σ, hσ, (hOs σ hσ).mp w.2.2.2⟩
    · exact l4 hσ w
end BD5
