/-! THE CLASS'S CALLS: pattern -/
theorem sgS_F {C : qB} {a : Nat} {n : Int} {f : Int → Int} (h : BY C a n f) {i : Int} (hi : i < 200) : sgS C a i = sgF f (min n 200) i := by
  unfold sgS sgF
  rw [h.1]
  by_cases q : n ≤ i
  · rw [if_pos q, if_neg (by omega)]
  · rw [if_neg q, if_pos (show i < min n 200 by omega)]
    by_cases z : i < 0
    · rw [h.out (by omega), if_pos (by omega), if_pos z]
    · rw [h.at (by omega) (by omega), if_neg z]
      by_cases w : 32 ≤ f i ∧ f i ≤ 126
      · rw [if_neg (by omega), if_pos w]
      · rw [if_pos (by omega), if_neg w]
theorem sgS_R {C : qB} {a : Nat} {n : Int} {f : Int → Int} (h : BY C a n f) : sgR (sgF f (min n 200)) (sgS C a) := by
  intro i
  by_cases q : i < 200
  · exact Or.inl (sgS_F h q).symm
  · right
    refine ⟨?_, ?_⟩
    · unfold sgF
      rw [if_neg (by omega)]
      decide
    · unfold sgS
      split
      · decide
      · rw [if_pos (Or.inl (by omega))]
        decide
/-- the class reads what the reference reads -/
theorem rd_same {C : qB} {a : Nat} {n : Int} {f : Int → Int} (h : BY C a n f) : (n ≤ 200 → sgS C a = sgF f (min n 200)) ∧ (200 < n → (∀ w, sParse (sgF f (min n 200)) = .error w → sParse (sgS C a) = .error w) ∧ ∀ e gr, sParse (sgF f (min n 200)) = .ok (e, gr) → sParse (sgS C a) = .error 200) := by
  refine ⟨fun hn => funext fun i => ?_, fun hn => ?_⟩
  · by_cases q : i < 200
    · exact sgS_F h q
    · unfold sgS sgF
      rw [h.1, if_pos (by omega), if_neg (by omega)]
  · have e : min n 200 = 200 := by omega
    have g : ∀ i, 0 ≤ sgF f (min n 200) i → i < 200 := fun i hi => by
      by_cases q : i < 200
      · exact q
      · unfold sgF at hi
        rw [if_neg (by omega)] at hi
        omega
    refine sParse_cut (sgS_R h) g (fun i i0 i1 => ⟨?_, (sgS_F h i1).symm⟩) ?_ ?_
    · unfold sgF
      rw [if_pos (by omega), if_neg (by omega)]
      split <;> omega
    · unfold sgF
      rw [if_neg (by omega)]
    · unfold sgS
      rw [h.1, if_neg (by omega), if_pos (Or.inl (Int.le_refl _))]
theorem esc_er {sg : Int → Int} (h0 : sg 0 = 92) (h1 : sg 1 < 0) : ∃ w, sParse sg = .error w := by
  have hA : sAt sg 0 = .error 1 := by
    have hE : sEsc sg (0 + 1) = .error 1 := by
      unfold sEsc
      rw [show (0 : Int) + 1 = 1 by decide, if_pos h1]
    have hq : isQt 92 = false := by decide
    unfold sAt
    rw [h0, hE, hq, if_neg (by decide), if_neg (by decide), if_neg (by decide), if_pos rfl, show (0 : Int) + 1 = 1 by decide, if_neg (by omega), if_neg (by omega)]
  have hS : sStep sg (0, 0, 0, [(1, 0, none, .num 0)]) = .error 1 := by
    unfold sStep
    try dsimp only
    rw [h0, if_neg (by decide), if_neg (by decide), if_neg (by decide), hA]
  refine ⟨1, ?_⟩
  unfold sParse
  have hR : sRun sg 201 (0, 0, 0, [(1, 0, none, .num 0)]) = .error 1 := by
    show sRun sg (200 + 1) (0, 0, 0, [(1, 0, none, .num 0)]) = .error 1
    unfold sRun
    try dsimp only
    rw [h0, if_neg (by decide), hS]
  rw [hR]
theorem sOf_s {e : qT} {s : Nat} (h : sOf e = some s) : e = .add (.num 0) (.var s) := by
  unfold sOf at h
  split at h
  · split at h
    · rename_i k s' hk
      cases h
      rw [hk]
    · cases h
  · cases h
theorem sOf_n {e : qT} (h : sOf e = none) : ¬ ∃ σ, e = .add (.num 0) (.var σ) := by
  intro ⟨σ, q⟩
  subst q
  have w : sOf (.add (.num 0) (.var σ)) = some σ := rfl
  rw [w] at h
  cases h
section KP
variable {h1 : qH} {d : Nat} {Q : qO → qB → Prop} {C C' B B' : qB} {c0 s0 : Int}
theorem OnA_of {sg : Int → Int} {a : Nat} {e : qT} {p n : Int} {f : Int → Int} (h : OnS sg C a e) (hs : sg = sgF f n) (hok : ∃ gr, sParse sg = .ok (e, gr)) (h6 : B 6 p = n + 1) (hn : 0 ≤ n) (h4 : ∀ i, 0 ≤ i → i < n → B 4 (200 * p + i) = f i) (he : tre B p = e) : OnA C a (alB B p) := by
  have k0 : ∀ i v : Int, 0 ≤ i → 32 ≤ v → v ≤ 126 → (sg i = v ↔ (i < n ∧ f i = v)) := by
    intro i v i0 v0 v1
    rw [hs]
    unfold sgF
    by_cases q : i < n
    · rw [if_pos q, if_neg (by omega)]
      by_cases z : 32 ≤ f i ∧ f i ≤ 126
      · rw [if_pos z]; exact ⟨fun w => ⟨q, w⟩, fun w => w.2⟩
      · rw [if_neg z]; exact ⟨fun w => by omega, fun w => by omega⟩
    · rw [if_neg q]; exact ⟨fun w => by omega, fun w => absurd w.1 q⟩
  have key : (1 < B 6 p ∧ (B 4 (200 * p) = 91 ∨ B 4 (200 * p) = 46 ∨ (B 4 (200 * p) = 92 ∧ isKl (B 4 (200 * p + 1)) = true))) ↔ sKS sg 0 := by
    unfold sKS
    have a91 := k0 0 91 (by decide) (by decide) (by decide)
    have a46 := k0 0 46 (by decide) (by decide) (by decide)
    have a92 := k0 0 92 (by decide) (by decide) (by decide)
    by_cases z : 0 < n
    · have e0 := h4 0 (by decide) z
      rw [Int.add_zero] at e0
      rw [e0, a91, a46, a92, show (0 : Int) + 1 = 1 by decide]
      have es : f 0 = 92 → sg 1 = B 4 (200 * p + 1) := by
        intro q
        have n1 : 1 < n := by
          by_cases w : 1 < n
          · exact w
          · exfalso
            have : sg 1 < 0 := by rw [hs]; unfold sgF; rw [if_neg w]; decide
            obtain ⟨w', q'⟩ := esc_er (a92.mpr ⟨z, q⟩) this
            obtain ⟨gr, hg⟩ := hok
            rw [hg] at q'
            cases q'
        have e1 := h4 1 (by decide) n1
        have hp : 0 ≤ sg 1 := by
          by_cases w : 0 ≤ sg 1
          · exact w
          · exfalso
            obtain ⟨w', q'⟩ := esc_er (a92.mpr ⟨z, q⟩) (by omega)
            obtain ⟨gr, hg⟩ := hok
            rw [hg] at q'
            cases q'
        rw [e1]
        rw [hs] at hp ⊢
        unfold sgF at hp ⊢
        rw [if_pos n1, if_neg (by decide)] at hp ⊢
        split at hp
        · rename_i w; rw [if_pos w]
        · omega
      constructor
      · rintro ⟨-, q | q | ⟨q, q'⟩⟩
        · exact Or.inl ⟨z, q⟩
        · exact Or.inr (Or.inl ⟨z, q⟩)
        · exact Or.inr (Or.inr ⟨⟨z, q⟩, by rw [es q]; exact q'⟩)
      · rintro (q | q | ⟨q, q'⟩)
        · exact ⟨by omega, Or.inl q.2⟩
        · exact ⟨by omega, Or.inr (Or.inl q.2)⟩
        · exact ⟨by omega, Or.inr (Or.inr ⟨q.2, by rw [← es q.2]; exact q'⟩)⟩
    · rw [a91, a46, a92]
      constructor
      · intro q; exact absurd q.1 (by omega)
      · intro q; omega
  unfold alB
  by_cases w : (1 < B 6 p ∧ (B 4 (200 * p) = 91 ∨ B 4 (200 * p) = 46 ∨ (B 4 (200 * p) = 92 ∧ isKl (B 4 (200 * p + 1)) = true)))
  · rw [if_pos w, he]
    cases ho : sOf e with
    | none => exact h.2 (fun ⟨σ, q, _⟩ => sOf_n ho ⟨σ, q⟩)
    | some s =>
      obtain ⟨q1, q2, q3⟩ := h.1 s (sOf_s ho) (key.mp w)
      exact ⟨⟨q1, q2⟩, q3⟩
  · rw [if_neg w]
    exact h.2 (fun ⟨σ, _, q⟩ => w (key.mpr q))
theorem K_pattern {p : Int} (hd : 120 ≤ d) (hI : CIv c0 s0 C B) (hO : OI B) (hc : c0 + 1 ≤ 900000000) (hp : R32 p)
    (k1 : ¬ (0 ≤ p ∧ p ≤ 7) → ∀ C', (∀ B' : qB, Pr B B' 1 (-1) → CIv (c0 + 1) (s0 + 6) C' B') → Q (.inr "java/lang/IllegalArgumentException") C')
    (k2 : (0 ≤ p ∧ p ≤ 7) → ∀ w, sParse (sgF (B 1) (min (B 2 0) 200)) = .error w → ∀ C', (∀ B' : qB, Pr B B' 2 w → CIv (c0 + 1) (s0 + 6) C' B') → Q (.inr "java/lang/UnsupportedOperationException") C')
    (k3 : (0 ≤ p ∧ p ≤ 7) → ∀ e gr, sParse (sgF (B 1) (min (B 2 0) 200)) = .ok (e, gr) → 200 < B 2 0 → ∀ C', (∀ B' : qB, Pr B B' 2 200 → CIv (c0 + 1) (s0 + 6) C' B') → Q (.inr "java/lang/UnsupportedOperationException") C')
    (k4 : (0 ≤ p ∧ p ≤ 7) → ∀ e gr, sParse (sgF (B 1) (min (B 2 0) 200)) = .ok (e, gr) → B 2 0 ≤ 200 → 400 < wR e → ∀ C', (∀ B' : qB, Pr B B' 3 (-1) → CIv (c0 + 1) (s0 + 6) C' B') → Q (.inr "java/lang/IndexOutOfBoundsException") C')
    (k5 : (0 ≤ p ∧ p ≤ 7) → ∀ e gr, sParse (sgF (B 1) (min (B 2 0) 200)) = .ok (e, gr) → B 2 0 ≤ 200 → wR e ≤ 400 → ∀ C', (∀ B' : qB, B' 2 0 = 0 → B' 3 0 = -1 → (∀ b y, Pb b y → b ≠ 2 → b ≠ 3 → b ≠ 4 → b ≠ 6 → b ≠ 7 → b ≠ 8 → B' b y = B b y) → B' 6 p = B 2 0 + 1 → B' 8 p = gr → (∀ s, s ≠ p → B' 6 s = B 6 s ∧ B' 7 s = B 7 s ∧ B' 8 s = B 8 s) → (∀ i, 0 ≤ i → i < B 2 0 → B' 4 (200 * p + i) = B 1 i) → (∀ x, ¬ (200 * p ≤ x ∧ x < 200 * p + B 2 0) → B' 4 x = B 4 x) → tre B' p = e → CIv c0 s0 C' B') → Q (.inl (some (iv (wR e)))) C') : qY h1 d n_P_pattern 0 [some (.ref 0), some (iv p), none, none] [] C Q := by
  obtain ⟨d, rfl, he⟩ := d_pos hd
  have hT := hI.2.2.2.1
  refine c_P_pattern_0_ok (by omega) hI.1 ?_
  unfold c_P_pattern_0
  refine K_take (by omega) hI (fun C1 src a1 a2 a3 a4 a5 a6 a7 => ?_)
  have I1 := a7 (u2 B 2 0 0) u2_same (fun b y _ _ q => u2_bank q)
  refine ⟨src, rfl, a1, I1.1, ?_⟩
  -- what a refused call leaves
  have tk : ∀ (c1 s1 : Int) (C' B' : qB) (thr w : Int), SH C' → DI c1 s1 C' → WtI C' → (∀ b x, b < 90 ∨ 100 < b → b ≠ 2000000000 → b ≠ 101 → ¬ (b = 0 ∧ x = 12) → C' b x = C1 b x) → C' 0 12 = w → Pr B B' thr w → CIv c1 s1 C' B' := by
    intro c1 s1 C' B' thr w s1' s2 s3 f e hPr
    have J := a7 (fun b y => if b = 3 then B 3 y else B' b y) (by (try dsimp only); rw [if_neg (by decide)]; exact hPr.2.2.1) (fun b y q q1 q2 => by
      try dsimp only
      by_cases z : b = 3
      · rw [if_pos z, z]
      · rw [if_neg z]; exact hPr.2.2.2.2 b y q q2 z)
    exact CI_f3 J s1' s2 (fun b x q q' => f b x (by omega) (by omega) (by omega) q') s3 (fun x => f _ _ (by omega) (by decide) (by decide) (by omega)) (fun b y q q3 => (if_neg q3).symm) (by rw [e]; exact hPr.2.2.2.1.symm)
  unfold c_P_pattern_4
  have S2 : SH (u2 C1 0 12 (-1)) := SH_u2 I1.1 (by decide)
  have D2 : DI c0 s0 (u2 C1 0 12 (-1)) := DI_lo I1.2.1 (fun b x q _ => u2_bank (by omega))
  have f2 : ∀ b x, ¬ (b = 0 ∧ x = 12) → (u2 C1 0 12 (-1)) b x = C1 b x := fun b x q => by
    by_cases z : b = 0
    · subst z; exact u2_idx (by omega)
    · exact u2_bank z
  have e2 : (u2 C1 0 12 (-1)) 0 12 = -1 := u2_same
  revert S2 D2 f2 e2
  generalize u2 C1 0 12 (-1) = C2
  intro S2 D2 f2 e2
  have W2 : WtI C2 := WtI_fr I1.2.2.1.2 (fun x => f2 _ _ (by omega))
  have B2 : BY C2 src (B 2 0) (B 1) := a5.fr (f2 _ _ (by omega)) (fun i => f2 _ _ (by omega))
  have hnn := a5.2.1
  refine K_prog (by omega) S2 D2 hp (fun q => Or.inr ⟨_, rfl, k1 q _ (fun B' hPr => tk _ _ _ B' 1 (-1) (SH_th S2) (DI_th D2 hc) (WtI_fr W2 (fun x => th_b (by decide))) (fun b x _ q2 _ q4 => by rw [th_b q2]; exact f2 b x q4) (by rw [th_b (by decide)]; exact e2) hPr)⟩) (fun q0 q1 => Or.inl ⟨_, rfl, pa_ob (by omega), S2, ?_⟩)
  have hpr : 0 ≤ p ∧ p ≤ 7 := ⟨q0, q1⟩
  obtain ⟨r1, r2⟩ := rd_same B2
  unfold c_P_pattern_15
  refine R_read (by omega) S2 a1 B2.ok W2 (CKB_fr I1.2.2.1.1 (fun x => f2 _ _ (by omega))) (fun e gr hS C3 s3 f3 w3 g5 gb hR => ?_) (fun w hS C3 s3 f3 w3 wn wb => ?_)
  · have n2 : B 2 0 ≤ 200 := by
      by_cases z : B 2 0 ≤ 200
      · exact z
      · exfalso
        obtain ⟨x1, x2⟩ := r2 (by omega)
        cases hq : sParse (sgF (B 1) (min (B 2 0) 200)) with
        | error w => rw [x1 w hq] at hS; cases hS
        | ok r => obtain ⟨e', g'⟩ := r; rw [x2 e' g' hq] at hS; cases hS
    have hS' : sParse (sgF (B 1) (min (B 2 0) 200)) = .ok (e, gr) := by rw [← r1 n2]; exact hS
    refine ⟨-1, rfl, s3, ?_⟩
    unfold c_P_pattern_25
    have S4 : SH (u2 C3 0 12 (-1)) := SH_u2 s3 (by decide)
    have f4 : ∀ b x, ¬ (b = 0 ∧ x = 12) → (u2 C3 0 12 (-1)) b x = C3 b x := fun b x q => by
      by_cases z : b = 0
      · subst z; exact u2_idx (by omega)
      · exact u2_bank z
    have e4 : (u2 C3 0 12 (-1)) 0 12 = -1 := u2_same
    revert S4 f4 e4
    generalize u2 C3 0 12 (-1) = C4
    intro S4 f4 e4
    have g4 : ∀ b x, b ≠ 0 → C4 b x = C3 b x := fun b x q => f4 b x (by omega)
    have D4 : DI c0 s0 C4 := DI_lo D2 (fun b x q _ => by rw [g4 b x (by omega)]; exact f3 b x (by omega))
    have R4 : RdT (sgS C2 src) C4 e := by
      obtain ⟨z1, z2, z3, z4, z5, z6, z7⟩ := hR
      have q : ∀ b, b ≠ 0 → C4 b = C3 b := fun b hb => funext fun x => g4 b x hb
      unfold RdT
      unfold xnd at z2 ⊢
      rw [q 91 (by decide), q 93 (by decide), q 100 (by decide), q 97 (by decide), q 90 (by decide), q 98 (by decide)]
      exact ⟨z1, z2, Nd_fr (fun x _ _ => g4 99 x (by decide)) (Int.le_refl _) _ _ _ _ _ z3 (fun b x b0 b1 _ _ => g4 b x (by omega)) (Int.le_refl _), z4, z5, z6, z7⟩
    have hr := hR.2.1
    have w4 : WtI C4 := WtI_fr w3 (fun x => g4 _ _ (by decide))
    have hroot : 0 ≤ C4 100 4 ∧ C4 100 4 < 408 := by
      have q1 := R4.2.1.1
      have q2 := R4.2.1.2.1
      have q3 := R4.2.2.2.2.1
      omega
    have hwt := R4.2.2.2.1
    have T1 : ∀ b x, b < 90 ∨ 100 < b → ¬ (b = 0 ∧ x = 12) → C4 b x = C1 b x := fun b x q q' => by rw [f4 b x q', f3 b x q]; exact f2 b x q'
    refine ⟨⟨by decide, by decide⟩, fun _ => ⟨hroot.1, hroot.2, ?_, fun hw => ?_, fun hw => ?_⟩, fun q => absurd rfl q⟩
    · have := w4 _ hroot.1 hroot.2
      exact ⟨by omega, by omega⟩
    · have hw' : wR e ≤ 400 := by omega
      have g5' : C4 100 5 = gr := by rw [g4 100 5 (by decide)]; exact g5
      rw [g5']
      refine R_build (sg := sgS C2 src) (by omega) S4 (pa_ob (by omega)) R4 hw' gb (fun C5 s5 f5 pg on => ⟨rfl, s5, ?_⟩)
      unfold c_P_pattern_98
      rw [pg.2.2.2.2.2.1]
      refine k5 hpr e gr hS' n2 hw' C5 (fun B' b2 b3 g b6 b8 bs b4 b4' bt => ?_)
      have J := a7 (fun b y => if b = 2 then B' 2 y else B b y) (by (try dsimp only); rw [if_pos rfl]; exact b2) (fun b y _ _ q => if_neg q)
      have pl := pa_le (p := p.toNat) (by omega)
      have en : ((p.toNat : Nat) : Int) = p := by omega
      have F : ∀ b x, b < 90 ∨ 101 < b → ¬ (pa p.toNat ≤ b ∧ b ≤ pa p.toNat + 8) → ¬ (b = 0 ∧ x = 12) → C5 b x = C1 b x := fun b x q1 q2 q3 => by rw [f5 b x q2 (by omega)]; exact T1 b x (by omega) q3
      have gg : ∀ b y, (1 ≤ b ∧ b ≤ 11) ∨ b = 14 ∨ b = 50 ∨ b = 71 → b ≠ 3 → b ≠ 4 → b ≠ 6 → b ≠ 7 → b ≠ 8 → B' b y = (fun b y => if b = 2 then B' 2 y else B b y) b y := fun b y q q3 q4 q6 q7 q8 => by
        try dsimp only
        by_cases z : b = 2
        · rw [if_pos z, z]
        · rw [if_neg z]; exact g b y q z q3 q4 q6 q7 q8
      obtain ⟨j1, j2, j3, j4, j5, j6, j9, j10, j11, j12⟩ := J
      refine ⟨s5, DI_lo D4 (fun b x q _ => f5 b x (by omega) (by omega)), ⟨CKB_fr j3.1 (fun x => F _ _ (by omega) (by omega) (by omega)), WtI_fr w4 (fun x => f5 _ _ (by omega) (by decide))⟩, j4.fr (fun b x q => F b x (by omega) (by omega) (by omega)) (gg 2 0 (by omega) (by decide) (by decide) (by decide) (by decide) (by decide)) (fun y _ _ => gg 1 y (by omega) (by decide) (by decide) (by decide) (by decide) (by decide)), ?_, j6.fr (fun b x q => F b x (by omega) (by omega) (by omega)) (fun b y q => gg b y (by omega) (by omega) (by omega) (by omega) (by omega) (by omega)), ?_, j10.fr (fun x => F _ _ (by omega) (by omega) (by omega)) (fun b y q => gg b y (by omega) (by omega) (by omega) (by omega) (by omega) (by omega)), j11.fr (fun b x q => F b x (by omega) (by omega) (by omega)) (fun b y q => gg b y (by omega) (by omega) (by omega) (by omega) (by omega) (by omega)), fun s hs => ?_⟩
      · unfold bOK
        rw [F _ _ (by omega) (by omega) (by omega)]
        exact j5
      · rw [f5 0 12 (by omega) (by decide), e4]
        exact b3.symm
      · by_cases z : s = p.toNat
        · subst z
          unfold PG
          rw [en, b6, b8, bt]
          refine ⟨fun q => by omega, fun _ => ⟨pg, ?_, ?_⟩⟩
          · exact ⟨pg.2.2.2.2.2.2.2.2.1, parse_nst hS', (parse_deep hS').1, Nd_shq _ _ _ _ R4.2.2.1, hw'⟩
          · refine OnA_of (n := B 2 0) (f := B 1) on (by rw [r1 n2, Int.min_eq_left n2]) ⟨gr, hS⟩ b6 hnn.1 b4 bt
        · have pz : ∀ s t : Nat, s < 8 → t < 8 → s ≠ t → pa s + 8 < pa t ∨ pa t + 8 < pa s := by
            intro s t h1 h2 h3
            unfold pa
            split <;> split <;> omega
          have ps := pa_le hs
          have pz' := pz s p.toNat hs (by omega) z
          obtain ⟨c6, c7, c8⟩ := bs (s : Int) (by omega)
          have q4 : ∀ y, 200 * (s : Int) ≤ y → y < 200 * (s : Int) + 200 → B' 4 y = B 4 y := fun y y0 y1 => b4' y (by omega)
          have h201 := (hO.2.2.2.1 (s : Int) (by omega) (by omega)).2.1
          have ht : tre B' (s : Int) = tre B s := (tre_fr (fun i i0 i1 => q4 _ (by omega) (by omega)) c6).2
          have hl : alB B' (s : Int) = alB B s := by
            unfold alB
            rw [c6, ht, q4 _ (by omega) (by omega), q4 _ (by omega) (by omega)]
          have q6 : ∀ (b : Nat) (y : Int), b ≠ 2 → (fun (b : Nat) (y : Int) => if b = 2 then B' 2 y else B b y) b y = B b y := fun b y q => if_neg q
          have hg := j12 s hs
          have hg' : PG C1 B s := by
            refine PG_fr (fun _ _ _ => rfl) ?_ ?_ ?_ ?_ hg
            · exact (tre_eq (B' := fun b y => if b = 2 then B' 2 y else B b y) (B := B) (fun y => q6 4 y (by decide)) (q6 6 _ (by decide))).symm
            · exact (alB_eq (B' := fun b y => if b = 2 then B' 2 y else B b y) (B := B) (fun y => q6 4 y (by decide)) (q6 6 _ (by decide))).symm
            · exact (q6 6 _ (by decide)).symm
            · exact (q6 8 _ (by decide)).symm
          exact PG_fr (fun j x hj => F _ _ (by omega) (by omega) (by omega)) ht hl c6 c8 hg'
    · refine ⟨D4.ctr, k4 hpr e gr hS' n2 (by omega) _ (fun B' hPr => tk _ _ _ B' 3 (-1) (SH_th S4) (DI_th D4 hc) (WtI_fr w4 (fun x => th_b (by decide))) (fun b x q1 q2 q3 q4 => by rw [th_b q2]; exact T1 b x (by omega) q4) (by rw [th_b (by decide)]; exact e4) hPr)⟩
  · refine ⟨w, rfl, s3, ?_⟩
    unfold c_P_pattern_25
    refine ⟨⟨by omega, by omega⟩, fun q => absurd q wn, fun _ => ⟨?_, ?_⟩⟩
    · rw [u2_bank (by decide), u2_bank (by decide), u2_bank (by decide)]
      exact (DI_lo D2 (fun b x q _ => f3 b x (by omega))).ctr
    · have fin : ∀ B', Pr B B' 2 w → CIv (c0 + 1) (s0 + 6) (thC (u2 C3 0 12 w)) B' := fun B' hPr => by
        have D5 : DI c0 s0 (u2 C3 0 12 w) := DI_lo D2 (fun b x q _ => by rw [u2_bank (by omega)]; exact f3 b x (by omega))
        refine tk _ _ _ B' 2 w (SH_th (SH_u2 s3 (by decide))) (DI_th D5 hc) (WtI_fr w3 (fun x => by rw [th_b (by decide)]; exact u2_bank (by decide))) (fun b x q1 q2 q3 q4 => ?_) (by rw [th_b (by decide)]; exact u2_same) hPr
        rw [th_b q2]
        have : (u2 C3 0 12 w) b x = C3 b x := by
          by_cases z : b = 0
          · subst z; exact u2_idx (by omega)
          · exact u2_bank z
        rw [this, f3 b x (by omega)]
        exact f2 b x q4
      by_cases z : B 2 0 ≤ 200
      · exact k2 hpr w (by rw [← r1 z]; exact hS) _ fin
      · obtain ⟨x1, x2⟩ := r2 (by omega)
        cases hq : sParse (sgF (B 1) (min (B 2 0) 200)) with
        | error w' =>
          have := x1 w' hq
          rw [hS] at this
          cases this
          exact k2 hpr w hq _ fin
        | ok r =>
          obtain ⟨e', g'⟩ := r
          have := x2 e' g' hq
          rw [hS] at this
          cases this
          exact k3 hpr e' g' hq (by omega) _ fin
end KP
