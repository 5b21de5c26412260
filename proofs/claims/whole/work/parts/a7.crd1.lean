/-! THE CLASS'S READER: steps of reading, its tree, its state -/
/-- k steps of reading, the end not reached before -/
def sN (sg : Int → Int) : Nat → sC → Except Int sC
  | 0, c => .ok c
  | k + 1, c => if sg c.1 = -1 then .error (-7) else match sStep sg c with
    | .error w => .error w
    | .ok c' => sN sg k c'
def sGo (sg : Int → Int) (c c' : sC) : Prop := ∃ k, sN sg k c = .ok c'
def sErr (sg : Int → Int) (c : sC) (w : Int) : Prop := ∃ c', sGo sg c c' ∧ sg c'.1 ≠ -1 ∧ sStep sg c' = .error w
/-- what is read is broken at w -/
def sBad (sg : Int → Int) (c : sC) (w : Int) : Prop := sErr sg c w ∨ ∃ c', sGo sg c c' ∧ sg c'.1 = -1 ∧ 2 ≤ c'.2.2.2.length ∧ w = c'.1
theorem sN_add (sg : Int → Int) : ∀ (j k : Nat) (c c' : sC), sN sg j c = .ok c' → sN sg (j + k) c = sN sg k c' := by
  intro j
  induction j with
  | zero => intro k c c' h; cases h; rw [Nat.zero_add]
  | succ j ih =>
    intro k c c' h
    rw [show j + 1 + k = (j + k) + 1 by omega]
    have un : ∀ (n : Nat) (c : sC), sN sg (n + 1) c = if sg c.1 = -1 then .error (-7) else match sStep sg c with
      | .error w => .error w
      | .ok c' => sN sg n c' := fun _ _ => rfl
    rw [un] at h ⊢
    by_cases he : sg c.1 = -1
    · rw [if_pos he] at h; cases h
    · rw [if_neg he] at h ⊢
      cases hs : sStep sg c with
      | error w => rw [hs] at h; cases h
      | ok c2 => rw [hs] at h; exact ih k c2 c' h
theorem sGo.refl {sg : Int → Int} {c : sC} : sGo sg c c := ⟨0, rfl⟩
theorem sGo.tr {sg : Int → Int} {c c' c2 : sC} (h : sGo sg c c') (g : sGo sg c' c2) : sGo sg c c2 := by
  obtain ⟨j, hj⟩ := h
  obtain ⟨k, hk⟩ := g
  exact ⟨j + k, by rw [sN_add sg j k c c' hj]; exact hk⟩
theorem sGo_step {sg : Int → Int} {c c' : sC} (h : sg c.1 ≠ -1) (hs : sStep sg c = .ok c') : sGo sg c c' := ⟨1, by
  unfold sN
  rw [if_neg h, hs]
  rfl⟩
theorem sErr.go {sg : Int → Int} {c c' : sC} {w : Int} (h : sGo sg c c') (g : sErr sg c' w) : sErr sg c w := by
  obtain ⟨c2, g1, g2⟩ := g
  exact ⟨c2, h.tr g1, g2⟩
theorem sBad.go {sg : Int → Int} {c c' : sC} {w : Int} (h : sGo sg c c') (g : sBad sg c' w) : sBad sg c w := by
  rcases g with g | ⟨c2, g1, g2⟩
  · exact Or.inl (g.go h)
  · exact Or.inr ⟨c2, h.tr g1, g2⟩
theorem sErr_step {sg : Int → Int} {c : sC} {w : Int} (h : sg c.1 ≠ -1) (hs : sStep sg c = .error w) : sErr sg c w := ⟨c, sGo.refl, h, hs⟩
/-! the tree in memory: mode 0 a row up to part q, 1 ways up to row q, 2 the part q; its numbers below N, its sets below M -/
def xnd (B : qB) (N q k : Int) : Prop := 1 ≤ q ∧ q < N ∧ B 91 q = k
/-- what a quantifier may stand behind -/
def qat : qT → Bool
  | .var _ => true
  | .neg _ => true
  | .mulL k _ => decide (1 ≤ k)
  | _ => false
def nrr (B : qB) (m q : Int) : Int := if m = 1 then B 93 q else q
def Nd (B : qB) (M : Int) : qT → Int → Int → Int → Prop
  | .num k, N, m, q => if m = 2 then k ≠ 0 ∧ xnd B N q (k + 2) else k = 0 ∧ (if m = 0 then q = 0 else xnd B N q 12 ∧ B 94 q = 0 ∧ B 93 q = 0)
  | .var s, N, m, q => m = 2 ∧ ((xnd B N q 1 ∧ 0 ≤ B 92 q ∧ B 92 q ≤ 255 ∧ (∀ c : Nat, c < 256 → s.testBit c = decide ((c : Int) = B 92 q))) ∨ (xnd B N q 2 ∧ 0 ≤ B 92 q ∧ B 92 q < M ∧ (∀ c : Nat, c < 256 → s.testBit c = hoC B 98 (B 92 q) c)))
  | .add a b, N, m, q => m ≠ 2 ∧ (m = 1 → xnd B N q 12 ∧ B 94 q = 0) ∧ Nd B M b (if m = 1 then q else N) 2 (nrr B m q) ∧ Nd B M a (nrr B m q) 0 (B 94 (nrr B m q))
  | .sub a b, N, m, q => m = 1 ∧ xnd B N q 12 ∧ B 94 q ≠ 0 ∧ Nd B M b q 0 (B 93 q) ∧ Nd B M a q 1 (B 94 q)
  | .neg a, N, m, q => m = 2 ∧ xnd B N q 10 ∧ xnd B q (B 93 q) 13 ∧ Nd B M a (B 93 q) 1 (B 93 (B 93 q))
  | .mulL k a, N, m, q => m = 2 ∧ xnd B N q (if 1 ≤ k then 9 else if k = 0 then 7 else 8) ∧ (1 ≤ k → B 92 q = k) ∧ xnd B q (B 93 q) 13 ∧ Nd B M a (B 93 q) 1 (B 93 (B 93 q))
  | .mulR a k, N, m, q => m = 2 ∧ xnd B N q 11 ∧ B 92 q = rg k ∧ B 95 q = rl k ∧ B 96 q = rh k ∧ qat a = true ∧ Nd B M a q 2 (B 93 q)
theorem hoC_fr {B B' : qB} {a : Nat} {s c : Int} (s0 : 0 ≤ s) (c1 : c ≤ 255) (h : ∀ x, s * 8 ≤ x → x < s * 8 + 8 → B' (a + 1) x = B (a + 1) x) : hoC B' a s c = hoC B a s c := by
  by_cases c0 : 0 ≤ c
  · rw [hoC_eq c0 c1, hoC_eq c0 c1, h _ (by omega) (by omega)]
  · unfold hoC
    rw [decide_eq_false c0, Bool.false_and, Bool.false_and]
theorem xndf {B B' : qB} {N N' q k : Int} (h : xnd B N q k) (f : ∀ b x, 91 ≤ b → b ≤ 96 → 0 ≤ x → x < N → B' b x = B b x) (hN : N ≤ N') : xnd B' N' q k := by
  obtain ⟨h1, h2, h3⟩ := h
  exact ⟨h1, by omega, (f 91 q (by decide) (by decide) (by omega) h2).trans h3⟩
theorem Nd_fr {B B' : qB} {M M' : Int} (hM : ∀ x, 0 ≤ x → x < 8 * M → B' 99 x = B 99 x) (hMM : M ≤ M') : ∀ (e : qT) (N m q N' : Int), Nd B M e N m q → (∀ b x, 91 ≤ b → b ≤ 96 → 0 ≤ x → x < N → B' b x = B b x) → N ≤ N' → Nd B' M' e N' m q := by
  intro e
  induction e with
  | num k =>
    intro N m q N' h f hN
    unfold Nd at h ⊢
    by_cases hm : m = 2
    · rw [if_pos hm] at h ⊢
      exact ⟨h.1, xndf h.2 f hN⟩
    · rw [if_neg hm] at h ⊢
      refine ⟨h.1, ?_⟩
      by_cases h0 : m = 0
      · rw [if_pos h0]; have := h.2; rw [if_pos h0] at this; exact this
      · have g := h.2
        rw [if_neg h0] at g ⊢
        obtain ⟨g1, g2, g3⟩ := g
        have q0 := g1.1
        exact ⟨xndf g1 f hN, by rw [f 94 q (by decide) (by decide) (by omega) g1.2.1]; exact g2, by rw [f 93 q (by decide) (by decide) (by omega) g1.2.1]; exact g3⟩
  | var s =>
    intro N m q N' h f hN
    unfold Nd at h ⊢
    refine ⟨h.1, ?_⟩
    rcases h.2 with ⟨g1, g2, g3, g4⟩ | ⟨g1, g2, g3, g4⟩
    · have q0 := g1.1
      have e := f 92 q (by decide) (by decide) (by omega) g1.2.1
      exact Or.inl ⟨xndf g1 f hN, by rw [e]; exact g2, by rw [e]; exact g3, fun c hc => by rw [e]; exact g4 c hc⟩
    · have q0 := g1.1
      have e := f 92 q (by decide) (by decide) (by omega) g1.2.1
      refine Or.inr ⟨xndf g1 f hN, by rw [e]; exact g2, by rw [e]; omega, fun c hc => ?_⟩
      rw [e, g4 c hc]
      exact (hoC_fr g2 (by omega) (fun x x0 x1 => hM x (by omega) (by omega))).symm
  | add a b iha ihb =>
    intro N m q N' h f hN
    unfold Nd at h ⊢
    obtain ⟨h1, h2, h3, h4⟩ := h
    by_cases hm : m = 1
    · have g := h2 hm
      have q0 := g.1.1
      have q1 := g.1.2.1
      have e1 : nrr B' m q = nrr B m q := by unfold nrr; rw [if_pos hm, if_pos hm, f 93 q (by decide) (by decide) (by omega) q1]
      rw [if_pos hm] at h3 ⊢
      rw [e1]
      have hb := ihb _ _ _ q h3 (fun b x b0 b1 x0 x1 => f b x b0 b1 x0 (by omega)) (Int.le_refl _)
      have nb : nrr B m q < q ∧ 1 ≤ nrr B m q := by
        generalize nrr B m q = r at h3
        cases b with
        | num k => unfold Nd at h3; rw [if_pos rfl] at h3; exact ⟨h3.2.2.1, h3.2.1⟩
        | var s => unfold Nd at h3; rcases h3.2 with g | g <;> exact ⟨g.1.2.1, g.1.1⟩
        | add a b => unfold Nd at h3; exact absurd rfl h3.1
        | sub a b => unfold Nd at h3; exact absurd h3.1 (by decide)
        | neg a => unfold Nd at h3; exact ⟨h3.2.1.2.1, h3.2.1.1⟩
        | mulL k a => unfold Nd at h3; exact ⟨h3.2.1.2.1, h3.2.1.1⟩
        | mulR a k => unfold Nd at h3; exact ⟨h3.2.1.2.1, h3.2.1.1⟩
      refine ⟨h1, fun _ => ⟨xndf g.1 f hN, by rw [f 94 q (by decide) (by decide) (by omega) q1]; exact g.2⟩, hb, ?_⟩
      rw [f 94 _ (by decide) (by decide) (by omega) (by omega)]
      exact iha _ _ _ _ h4 (fun b x b0 b1 x0 x1 => f b x b0 b1 x0 (by omega)) (Int.le_refl _)
    · have e1 : nrr B' m q = q := by unfold nrr; rw [if_neg hm]
      have e2 : nrr B m q = q := by unfold nrr; rw [if_neg hm]
      rw [if_neg hm] at h3 ⊢
      rw [e2] at h3 h4
      rw [e1]
      have hb := ihb _ _ _ N' h3 f hN
      have nb : q < N ∧ 1 ≤ q := by
        cases b with
        | num k => unfold Nd at h3; rw [if_pos rfl] at h3; exact ⟨h3.2.2.1, h3.2.1⟩
        | var s => unfold Nd at h3; rcases h3.2 with g | g <;> exact ⟨g.1.2.1, g.1.1⟩
        | add a b => unfold Nd at h3; exact absurd rfl h3.1
        | sub a b => unfold Nd at h3; exact absurd h3.1 (by decide)
        | neg a => unfold Nd at h3; exact ⟨h3.2.1.2.1, h3.2.1.1⟩
        | mulL k a => unfold Nd at h3; exact ⟨h3.2.1.2.1, h3.2.1.1⟩
        | mulR a k => unfold Nd at h3; exact ⟨h3.2.1.2.1, h3.2.1.1⟩
      refine ⟨h1, fun w => absurd w hm, hb, ?_⟩
      rw [f 94 _ (by decide) (by decide) (by omega) nb.1]
      exact iha _ _ _ _ h4 (fun b x b0 b1 x0 x1 => f b x b0 b1 x0 (by omega)) (Int.le_refl _)
  | sub a b iha ihb =>
    intro N m q N' h f hN
    unfold Nd at h ⊢
    obtain ⟨h1, h2, h3, h4, h5⟩ := h
    have q0 := h2.1
    have q1 := h2.2.1
    have f' : ∀ b x, 91 ≤ b → b ≤ 96 → 0 ≤ x → x < q → B' b x = B b x := fun b x b0 b1 x0 x1 => f b x b0 b1 x0 (by omega)
    rw [f 94 q (by decide) (by decide) (by omega) q1, f 93 q (by decide) (by decide) (by omega) q1]
    exact ⟨h1, xndf h2 f hN, h3, ihb _ _ _ _ h4 f' (Int.le_refl _), iha _ _ _ _ h5 f' (Int.le_refl _)⟩
  | neg a iha =>
    intro N m q N' h f hN
    unfold Nd at h ⊢
    obtain ⟨h1, h2, h3, h4⟩ := h
    have q0 := h2.1
    have q1 := h2.2.1
    have r0 := h3.1
    have r1 := h3.2.1
    have f' : ∀ b x, 91 ≤ b → b ≤ 96 → 0 ≤ x → x < q → B' b x = B b x := fun b x b0 b1 x0 x1 => f b x b0 b1 x0 (by omega)
    rw [f 93 q (by decide) (by decide) (by omega) q1, f' 93 _ (by decide) (by decide) (by omega) r1]
    exact ⟨h1, xndf h2 f hN, xndf h3 f' (Int.le_refl _), iha _ _ _ _ h4 (fun b x b0 b1 x0 x1 => f' b x b0 b1 x0 (by omega)) (Int.le_refl _)⟩
  | mulL k a iha =>
    intro N m q N' h f hN
    unfold Nd at h ⊢
    obtain ⟨h1, h2, h5, h3, h4⟩ := h
    have q0 := h2.1
    have q1 := h2.2.1
    have r0 := h3.1
    have r1 := h3.2.1
    have f' : ∀ b x, 91 ≤ b → b ≤ 96 → 0 ≤ x → x < q → B' b x = B b x := fun b x b0 b1 x0 x1 => f b x b0 b1 x0 (by omega)
    rw [f 93 q (by decide) (by decide) (by omega) q1, f' 93 _ (by decide) (by decide) (by omega) r1, f 92 q (by decide) (by decide) (by omega) q1]
    exact ⟨h1, xndf h2 f hN, h5, xndf h3 f' (Int.le_refl _), iha _ _ _ _ h4 (fun b x b0 b1 x0 x1 => f' b x b0 b1 x0 (by omega)) (Int.le_refl _)⟩
  | mulR a k iha =>
    intro N m q N' h f hN
    unfold Nd at h ⊢
    obtain ⟨h1, h2, h3, h4, h5, h6, h7⟩ := h
    have q0 := h2.1
    have q1 := h2.2.1
    rw [f 92 q (by decide) (by decide) (by omega) q1, f 93 q (by decide) (by decide) (by omega) q1, f 95 q (by decide) (by decide) (by omega) q1, f 96 q (by decide) (by decide) (by omega) q1]
    exact ⟨h1, xndf h2 f hN, h3, h4, h5, h6, iha _ _ _ _ h7 (fun b x b0 b1 x0 x1 => f b x b0 b1 x0 (by omega)) (Int.le_refl _)⟩
/-- a part has a number -/
theorem Nd_part {B : qB} {M : Int} {e : qT} {N q : Int} (h : Nd B M e N 2 q) : 1 ≤ q ∧ q < N := by
  cases e with
  | num k => unfold Nd at h; rw [if_pos rfl] at h; exact ⟨h.2.1, h.2.2.1⟩
  | var s => unfold Nd at h; rcases h.2 with g | g <;> exact ⟨g.1.1, g.1.2.1⟩
  | add a b => unfold Nd at h; exact absurd rfl h.1
  | sub a b => unfold Nd at h; exact absurd h.1 (by decide)
  | neg a => unfold Nd at h; exact ⟨h.2.1.1, h.2.1.2.1⟩
  | mulL k a => unfold Nd at h; exact ⟨h.2.1.1, h.2.1.2.1⟩
  | mulR a k => unfold Nd at h; exact ⟨h.2.1.1, h.2.1.2.1⟩
/-! the reader's state -/
def RS (sg : Int → Int) (B0 B : qB) : Prop := SH B ∧ RI B ∧ (∀ p, sgC B p = sg p) ∧ (∀ b x, b < 90 ∨ 100 < b → B b x = B0 b x) ∧ B 100 1 = B0 100 1 ∧ (1 ≤ B 90 8 ∧ B 90 8 ≤ 408) ∧ (0 ≤ B 98 1 ∧ B 98 1 ≤ B 100 2) ∧ (∀ x, 0 ≤ x → x < 408 → 0 ≤ B 97 x ∧ B 97 x ≤ 401) ∧ (-1 ≤ B 100 3 ∧ B 100 3 ≤ 5000) ∧ (0 ≤ B 100 7 ∧ B 100 7 ≤ B 100 2) ∧ (0 ≤ B 100 5 ∧ B 100 5 ≤ 9) ∧ (0 ≤ B 100 6 ∧ B 100 6 ≤ 1)
theorem src_lt {a : Nat} (h : ob 1 a) : a < 90 ∧ a + 1 < 90 := by
  have : (List.range 112).all (fun a => !decide (shp a = 2) || decide (a + 1 < 90)) = true := by decide +kernel
  have h2 := sh_all this h.2.1
  have e : shp a = 2 := h.1
  rw [decide_eq_true e] at h2
  have h3 : a + 1 < 90 := of_decide_eq_true (by simpa using h2)
  omega
theorem sgC_fr {B B' : qB} (hr : ob 1 (B 100 1).toNat) (hf : ∀ b x, b < 90 ∨ 100 < b → B' b x = B b x) (h1 : B' 100 1 = B 100 1) (p : Int) : sgC B' p = sgC B p := by
  have hs := src_lt hr
  have e1 : ∀ x, B' (B 100 1).toNat x = B (B 100 1).toNat x := fun x => hf _ x (Or.inl hs.1)
  have e2 : ∀ x, B' ((B 100 1).toNat + 1) x = B ((B 100 1).toNat + 1) x := fun x => hf _ x (Or.inl hs.2)
  unfold sgC byA
  rw [h1]
  simp only [e1, e2]
theorem RI_fr {B B' : qB} (hr : RI B) (hf : ∀ b x, b < 90 ∨ 100 < b → B' b x = B b x) (h1 : B' 100 1 = B 100 1) (a0 : 0 ≤ B' 100 2) (a1 : B' 100 2 ≤ 100000) : RI B' := by
  obtain ⟨r1, r2, r3, r4⟩ := hr
  have hs := src_lt r1
  unfold RI
  rw [h1]
  refine ⟨r1, ?_, a0, a1⟩
  unfold bOK at r2 ⊢
  rw [hf _ 1 (Or.inl hs.1)]
  exact r2
theorem RS.mk' {sg : Int → Int} {B0 B B' : qB} (h : RS sg B0 B) (hS : SH B') (hf : ∀ b x, b < 90 ∨ 100 < b → B' b x = B b x) (h1 : B' 100 1 = B 100 1) (a0 : B' 98 1 ≤ B' 100 2) (a1 : B' 100 2 ≤ 100000) (s0 : 1 ≤ B' 90 8 ∧ B' 90 8 ≤ 408) (m0 : 0 ≤ B' 98 1) (w0 : ∀ x, 0 ≤ x → x < 408 → 0 ≤ B' 97 x ∧ B' 97 x ≤ 401) (b0 : -1 ≤ B' 100 3 ∧ B' 100 3 ≤ 5000) (k0 : 0 ≤ B' 100 7 ∧ B' 100 7 ≤ B' 100 2) (g0 : 0 ≤ B' 100 5 ∧ B' 100 5 ≤ 9) (o0 : 0 ≤ B' 100 6 ∧ B' 100 6 ≤ 1) : RS sg B0 B' := by
  obtain ⟨g1, g2, g3, g4, g5, -⟩ := h
  exact ⟨hS, RI_fr g2 hf h1 (by omega) a1, fun p => by rw [sgC_fr g2.1 hf h1]; exact g3 p, fun b x q => (hf b x q).trans (g4 b x q), h1.trans g5, s0, ⟨m0, a0⟩, w0, b0, k0, g0, o0⟩
/-- a field of the reader changes -/
theorem RS_f {sg : Int → Int} {B0 B : qB} {j z : Int} (h : RS sg B0 B) (hj : j = 2 ∨ j = 3 ∨ j = 4 ∨ j = 5 ∨ j = 6 ∨ j = 7) (h2 : j = 2 → B 98 1 ≤ z ∧ B 100 7 ≤ z ∧ z ≤ 100000) (h3 : j = 3 → -1 ≤ z ∧ z ≤ 5000) (h5 : j = 5 → 0 ≤ z ∧ z ≤ 9) (h6 : j = 6 → 0 ≤ z ∧ z ≤ 1) (h7 : j = 7 → 0 ≤ z ∧ z ≤ B 100 2) : RS sg B0 (u2 B 100 j z) := by
  have h0 := h
  obtain ⟨g1, g2, g3, g4, g5, g6, g7, g8, g9, g10, g11, g12⟩ := h
  have hat := g2.2.2
  have b98 : (u2 B 100 j z) 98 1 = B 98 1 := u2_bank (by decide)
  have b90 : (u2 B 100 j z) 90 8 = B 90 8 := u2_bank (by decide)
  have f : ∀ i, i ≠ j → (u2 B 100 j z) 100 i = B 100 i := fun i hi => u2_idx hi
  refine RS.mk' h0 (SH_u2 g1 (by omega)) (fun b x q => u2_bank (by omega)) (f 1 (by omega)) ?_ ?_ (by rw [b90]; exact g6) (by rw [b98]; exact g7.1) (fun x x0 x1 => by rw [u2_bank (by decide)]; exact g8 x x0 x1) ?_ ?_ ?_ ?_
  · rw [b98]
    by_cases e : j = 2
    · subst e; rw [u2_same]; exact (h2 rfl).1
    · rw [f 2 (fun w => e w.symm)]; exact g7.2
  · by_cases e : j = 2
    · subst e; rw [u2_same]; exact (h2 rfl).2.2
    · rw [f 2 (fun w => e w.symm)]; exact hat.2
  · by_cases e : j = 3
    · subst e; rw [u2_same]; exact h3 rfl
    · rw [f 3 (fun w => e w.symm)]; exact g9
  · by_cases e : j = 2
    · subst e; rw [u2_same, f 7 (by decide)]; exact ⟨g10.1, (h2 rfl).2.1⟩
    · by_cases e7 : j = 7
      · subst e7; rw [u2_same, f 2 (by decide)]; exact h7 rfl
      · rw [f 2 (fun w => e w.symm), f 7 (fun w => e7 w.symm)]; exact g10
  · by_cases e : j = 5
    · subst e; rw [u2_same]; exact h5 rfl
    · rw [f 5 (fun w => e w.symm)]; exact g11
  · by_cases e : j = 6
    · subst e; rw [u2_same]; exact h6 rfl
    · rw [f 6 (fun w => e w.symm)]; exact g12
theorem RS_at {sg : Int → Int} {B0 B : qB} {z : Int} (h : RS sg B0 B) (h1 : B 100 2 ≤ z) (h2 : z ≤ 100000) : RS sg B0 (u2 B 100 2 z) := RS_f h (by omega) (fun _ => ⟨by have := h.2.2.2.2.2.2.1; omega, by have := h.2.2.2.2.2.2.2.2.2.1; omega, h2⟩) (fun w => absurd w (by decide)) (fun w => absurd w (by decide)) (fun w => absurd w (by decide)) (fun w => absurd w (by decide))
theorem brC_at (B : qB) (x : Int) (j : Int) (hj : j ≠ 3) : brC B x 100 j = B 100 j := by
  unfold brC
  split
  · exact u2_idx hj
  · rfl
theorem brC_b (B : qB) (x : Int) (b : Nat) (y : Int) (hb : b ≠ 100) : brC B x b y = B b y := by
  unfold brC
  split
  · exact u2_bank hb
  · rfl
theorem brC_3 {B : qB} {x : Int} : brC B x 100 3 = if B 100 3 = -1 then x else B 100 3 := by
  unfold brC
  split
  · exact u2_same
  · rfl
theorem RS_br {sg : Int → Int} {B0 B : qB} {z : Int} (h : RS sg B0 B) (z0 : -1 ≤ z) (z1 : z ≤ 5000) : RS sg B0 (brC B z) := by
  unfold brC
  split
  · exact RS_f h (by omega) (fun w => absurd w (by decide)) (fun _ => ⟨z0, z1⟩) (fun w => absurd w (by decide)) (fun w => absurd w (by decide)) (fun w => absurd w (by decide))
  · exact h
theorem adT_o {B : qB} {k v i z : Int} (b : Nat) (x : Int) (h : ¬ (b = 90 ∧ x = 8)) (h2 : ¬ ((b = 91 ∨ b = 92 ∨ b = 93 ∨ b = 94 ∨ b = 97) ∧ x = B 90 8)) : adT B k v i z b x = B b x := by
  unfold adT
  split
  · have u : ∀ (C : qB) (b' : Nat) (y v : Int), ¬ (b = b' ∧ x = y) → u2 C b' y v b x = C b x := fun C b' y v hn => by
      by_cases hb : b = b'
      · subst hb; exact u2_idx (fun w => hn ⟨rfl, w⟩)
      · exact u2_bank hb
    rw [u _ _ _ _ (by omega), u _ _ _ _ (by omega), u _ _ _ _ (by omega), u _ _ _ _ (by omega), u _ _ _ _ (by omega), u _ _ _ _ h]
  · rfl
theorem adT_n {B : qB} {k v i z : Int} (h : B 90 8 < 408) : adT B k v i z 90 8 = B 90 8 + 1 ∧ adT B k v i z 91 (B 90 8) = k ∧ adT B k v i z 92 (B 90 8) = v ∧ adT B k v i z 93 (B 90 8) = i ∧ adT B k v i z 94 (B 90 8) = 0 ∧ adT B k v i z 97 (B 90 8) = min z 401 := by
  unfold adT
  rw [if_pos h]
  refine ⟨?_, ?_, ?_, ?_, ?_, u2_same⟩
  · rw [u2_bank (by decide), u2_bank (by decide), u2_bank (by decide), u2_bank (by decide), u2_bank (by decide), u2_same]
  · rw [u2_bank (by decide), u2_bank (by decide), u2_bank (by decide), u2_bank (by decide), u2_same]
  · rw [u2_bank (by decide), u2_bank (by decide), u2_bank (by decide), u2_same]
  · rw [u2_bank (by decide), u2_bank (by decide), u2_same]
  · rw [u2_bank (by decide), u2_same]
theorem RS_ad {sg : Int → Int} {B0 B : qB} {k v i z : Int} (h : RS sg B0 B) (z0 : 0 ≤ z) (hz : R32 z) : RS sg B0 (adT B k v i z) := by
  have h0 := h
  obtain ⟨g1, g2, g3, g4, g5, g6, g7, g8, g9, g10, g11, g12⟩ := h
  have o1 : ∀ x, adT B k v i z 100 x = B 100 x := fun x => adT_o 100 x (by omega) (by omega)
  have o2 : adT B k v i z 98 1 = B 98 1 := adT_o 98 1 (by omega) (by omega)
  refine RS.mk' h0 (S_Tr_add g1 g6.1 g6.2 hz) (fun b x q => adT_o b x (by omega) (by omega)) (o1 1) (by rw [o1, o2]; exact g7.2) (by rw [o1]; exact g2.2.2.2) ?_ (by rw [o2]; exact g7.1) (fun x x0 x1 => ?_) (by rw [o1]; exact g9) (by rw [o1, o1]; exact g10) (by rw [o1]; exact g11) (by rw [o1]; exact g12)
  · by_cases hl : B 90 8 < 408
    · rw [(adT_n hl).1]; omega
    · unfold adT; rw [if_neg hl]; exact g6
  · by_cases hx : x = B 90 8
    · subst hx
      rw [(adT_n x1).2.2.2.2.2]
      omega
    · rw [adT_o 97 x (by omega) (by omega)]; exact g8 x x0 x1
/-- what is read well: c parts more than two a byte -/
def GP (sg : Int → Int) (B0 : qB) (c : Int) (B B' : qB) : Prop := RS sg B0 B' ∧ B' 100 3 = -1 ∧ B' 100 6 = B 100 6 ∧ B 100 2 ≤ B' 100 2 ∧ B' 100 2 ≤ 200 ∧ B 90 8 ≤ B' 90 8 ∧ B' 90 8 ≤ B 90 8 + 2 * (B' 100 2 - B 100 2) + c ∧ (∀ b x, 91 ≤ b → b ≤ 97 → 0 ≤ x → x < B 90 8 → B' b x = B b x) ∧ B 98 1 ≤ B' 98 1 ∧ (∀ x, 0 ≤ x → x < 8 * B 98 1 → B' 99 x = B 99 x) ∧ B 100 7 ≤ B' 100 7
theorem GP.tr {sg : Int → Int} {B0 B B1 B2 : qB} {c c' : Int} (h : GP sg B0 c B B1) (g : GP sg B0 c' B1 B2) : GP sg B0 (c + c') B B2 := by
  obtain ⟨h1, h2, h3, h4, h5, h6, h7, h8, h9, h10, h11⟩ := h
  obtain ⟨g1, g2, g3, g4, g5, g6, g7, g8, g9, g10, g11⟩ := g
  exact ⟨g1, g2, g3.trans h3, by omega, g5, by omega, by omega, fun b x b0 b1 x0 x1 => (g8 b x b0 b1 x0 (by omega)).trans (h8 b x b0 b1 x0 x1), by omega, fun x x0 x1 => (g10 x x0 (by omega)).trans (h10 x x0 x1), by omega⟩
theorem GP.mono {sg : Int → Int} {B0 B B1 : qB} {c c' : Int} (h : GP sg B0 c B B1) (hc : c ≤ c') : GP sg B0 c' B B1 := by
  obtain ⟨h1, h2, h3, h4, h5, h6, h7, h8⟩ := h
  exact ⟨h1, h2, h3, h4, h5, h6, by omega, h8⟩
/-- what is broken at w -/
def BP (sg : Int → Int) (B0 : qB) (l : Int) (B B' : qB) (w : Int) : Prop := RS sg B0 B' ∧ B' 100 3 = w ∧ w ≠ -1 ∧ B' 100 6 = B 100 6 ∧ B' 100 2 ≤ 300 - 2 * l
theorem RS.lt {sg : Int → Int} {B0 B : qB} (h : RS sg B0 B) {i : Int} (hi : 0 ≤ sg i) : i < 200 ∧ 32 ≤ sg i ∧ sg i ≤ 126 := by
  have h3 := h.2.2.1 i
  have hb := sgC_bd B i
  rw [← h3] at hi ⊢
  unfold sgC at hi hb ⊢
  split at hi
  · omega
  · rename_i h1
    rw [if_neg h1] at hb ⊢
    split at hi
    · omega
    · rename_i h2
      rw [if_neg h2] at hb ⊢
      omega
theorem RS.R {sg : Int → Int} {B0 B : qB} (h : RS sg B0 B) (i : Int) : R32 (sg i) := by rw [← h.2.2.1 i]; exact sgC_R B i
theorem RS.bd {sg : Int → Int} {B0 B : qB} (h : RS sg B0 B) (i : Int) : -2 ≤ sg i ∧ sg i ≤ 126 := by rw [← h.2.2.1 i]; exact sgC_bd B i
theorem RS.R3 {sg : Int → Int} {B0 B : qB} (h : RS sg B0 B) : R32 (B 100 3) := by have := h.2.2.2.2.2.2.2.2.1; exact ⟨by omega, by omega⟩
/-- a set stands at a: [ ], . or one of the kinds -/
def sKS (sg : Int → Int) (a : Int) : Prop := sg a = 91 ∨ sg a = 46 ∨ (sg a = 92 ∧ isKl (sg (a + 1)) = true)
/-- a part that has been read -/
def XO (sg : Int → Int) (B0 B B' : qB) (e : qT) (v : Int) : Prop := GP sg B0 0 B B' ∧ Nd B' (B' 98 1) e (B' 90 8) 2 v ∧ B 90 8 ≤ v ∧ B' 97 v = min (wR e) 401 ∧ (B' 100 7 = B 100 7 ↔ aT e = false) ∧ B 100 2 < B' 100 2 ∧ (∀ s, e = .var s → (B' 91 v = 2 ↔ sKS sg (B 100 2)))
/-- what is found behind part e makes the row longer -/
def AP (sg : Int → Int) (at' gr lk hw g : Int) (wy : Option qT) (rw : qT) (r : List sF) (e : qT) (a gr' : Int) : Prop := (∀ q b, sQt sg lk e a = .ok (q, b) → sGo sg (at', gr, lk, (hw, g, wy, rw) :: r) (b, gr', lk, (hw, g, wy, .add rw q) :: r)) ∧ (∀ w, sQt sg lk e a = .error w → sErr sg (at', gr, lk, (hw, g, wy, rw) :: r) w)
/-- an atom that is no bracket -/
theorem AP_at {sg : Int → Int} {at' gr lk hw g a : Int} {wy : Option qT} {rw e : qT} {r : List sF} (h1 : sg at' ≠ -1) (h2 : sg at' ≠ 124) (h3 : sg at' ≠ 40) (h4 : sg at' ≠ 41) (h : sAt sg at' = .ok (e, a)) : AP sg at' gr lk hw g wy rw r e a gr := by
  have un : sStep sg (at', gr, lk, (hw, g, wy, rw) :: r) = (match sAt sg at' with
        | .error w => .error w
        | .ok (e, a) => match sQt sg lk e a with
          | .error w => .error w
          | .ok (q, a') => .ok (a', gr, lk, (hw, g, wy, .add rw q) :: r)) := by
    show (if sg at' = 124 then _ else if sg at' = 40 then _ else if sg at' = 41 then _ else _) = _
    rw [if_neg h2, if_neg h3, if_neg h4]
    rfl
  rw [h] at un
  refine ⟨fun q b hq => sGo_step h1 (by rw [un]; dsimp only; rw [hq]), fun w hq => sErr_step h1 (by rw [un]; dsimp only; rw [hq])⟩
theorem sErr_at {sg : Int → Int} {at' gr lk hw g w : Int} {wy : Option qT} {rw : qT} {r : List sF} (h1 : sg at' ≠ -1) (h2 : sg at' ≠ 124) (h3 : sg at' ≠ 40) (h4 : sg at' ≠ 41) (h : sAt sg at' = .error w) : sErr sg (at', gr, lk, (hw, g, wy, rw) :: r) w := by
  refine sErr_step h1 ?_
  show (if sg at' = 124 then _ else if sg at' = 40 then _ else if sg at' = 41 then _ else _) = _
  rw [if_neg h2, if_neg h3, if_neg h4, h]
