/-! THE REFERENCE'S COMPILER: its state -/
/-- how deep in rounds without bound a split may stand -/
def sd : qT → Int
  | .num _ => -1
  | .var _ => -1
  | .add a b => max (sd a) (sd b)
  | .sub a b => max 0 (max (sd a) (sd b))
  | .neg a => sd a
  | .mulL k a => if 1 ≤ k then sd a else max 0 (sd a)
  | .mulR a _ => max 0 (sd a + 1)
/-- the number of splits ahead of an instruction, also of the next one -/
def zz (B : qB) (pc : Int) : Int := if pc < B 46 0 then B 45 pc else B 48 0
def GI (B : qB) : Prop := B 54 (B 48 0) = B 56 0 ∧ B 54 0 = 0 ∧ (∀ s, 0 ≤ s → s < B 48 0 → 1 ≤ B 54 (s + 1) - B 54 s ∧ B 54 (s + 1) - B 54 s ≤ 11) ∧ zz B 0 = 0 ∧ (∀ pc, 0 ≤ pc → pc < B 46 0 → zz B (pc + 1) = B 45 pc + (if B 42 pc = 1 ∨ B 42 pc = 6 then 1 else 0))
theorem GI_eq {B B' : qB} (h : GI B) (e : ∀ b y, (b = 42 ∨ b = 45 ∨ b = 46 ∨ b = 48 ∨ b = 54 ∨ b = 56) → B' b y = B b y) : GI B' := by
  obtain ⟨h1, h2, h3, h4, h5⟩ := h
  have ez : ∀ pc, zz B' pc = zz B pc := by
    intro pc
    unfold zz
    rw [e 46 0 (by omega), e 45 pc (by omega), e 48 0 (by omega)]
  refine ⟨?_, ?_, ?_, ?_, ?_⟩
  · rw [e 48 0 (by omega), e 54 _ (by omega), e 56 0 (by omega)]; exact h1
  · rw [e 54 0 (by omega)]; exact h2
  · intro s s0 s1
    rw [e 48 0 (by omega)] at s1
    rw [e 54 _ (by omega), e 54 _ (by omega)]
    exact h3 s s0 s1
  · rw [ez]; exact h4
  · intro pc p0 p1
    rw [e 46 0 (by omega)] at p1
    rw [ez, e 45 pc (by omega), e 42 pc (by omega)]
    exact h5 pc p0 p1
/-- what is done leaves as it is: instructions below a, splits, marks, tasks below t -/
def CF (a t sp mk : Int) (b : Nat) (y : Int) : Prop := b ≤ 41 ∨ (42 ≤ b ∧ b ≤ 45 ∧ y < a) ∨ (49 ≤ b ∧ b ≤ 51) ∨ (b = 52 ∧ y < sp) ∨ (b = 53 ∧ y < mk) ∨ (b = 54 ∧ y ≤ sp) ∨ (57 ≤ b ∧ b ≤ 59) ∨ (60 ≤ b ∧ b ≤ 63 ∧ y < t) ∨ 65 ≤ b
theorem CF_tr {a t sp mk a' t' sp' mk' : Int} {B B1 B2 : qB} (h : FrS (CF a t sp mk) B B1) (h2 : FrS (CF a' t' sp' mk') B1 B2) (e1 : a ≤ a') (e2 : t ≤ t') (e3 : sp ≤ sp') (e4 : mk ≤ mk') : FrS (CF a t sp mk) B B2 := FrS.trans h h2 (fun b y q => by unfold CF at q ⊢; omega)
theorem CF_mono {a t sp mk a' t' sp' mk' : Int} {B B1 : qB} (h : FrS (CF a' t' sp' mk') B B1) (e1 : a ≤ a') (e2 : t ≤ t') (e3 : sp ≤ sp') (e4 : mk ≤ mk') : FrS (CF a t sp mk) B B1 := h.sub (fun b y q => by unfold CF at q ⊢; omega)
def CX (B : qB) (ctx : List Int) (a t : Int) : Prop := B 46 0 = a ∧ B 64 0 = t ∧ B 55 0 = ctxH ctx ∧ CH B ctx ∧ (∀ q ∈ ctx, q < B 47 0) ∧ 0 ≤ a ∧ 0 ≤ t ∧ 0 ≤ B 48 0 ∧ 0 ≤ B 47 0 ∧ GI B
section XX
variable {B : qB} {ctx : List Int} {a t : Int}
/-- changes that the state does not see, but for the height of the tasks -/
theorem CX_eq {B' : qB} {t' : Int} (h : CX B ctx a t) (ht : B' 64 0 = t') (t0 : 0 ≤ t') (e : ∀ b y, (b = 42 ∨ (45 ≤ b ∧ b ≤ 48) ∨ (53 ≤ b ∧ b ≤ 56)) → B' b y = B b y) : CX B' ctx a t' := by
  obtain ⟨h1, h2, h3, h4, h5, h6, h7, h8, h9, h10⟩ := h
  refine ⟨by rw [e 46 0 (by omega)]; exact h1, ht, by rw [e 55 0 (by omega)]; exact h3, CH_eq ctx (fun q _ => e 53 q (by omega)) h4, fun q hq => by rw [e 47 0 (by omega)]; exact h5 q hq, h6, t0, by rw [e 48 0 (by omega)]; exact h8, by rw [e 47 0 (by omega)]; exact h9, GI_eq h10 (fun b y q => e b y (by omega))⟩
theorem X_lt {w x y z : Int} (h : CX B ctx a t) : CX (ltB B w x y z) ctx a (t + 1) ∧ FrS (TS t) B (ltB B w x y z) ∧ ltB B w x y z 60 t = w ∧ ltB B w x y z 61 t = x ∧ ltB B w x y z 62 t = y ∧ ltB B w x y z 63 t = z := by
  have h64 : B 64 0 = t := h.2.1
  have f : FrS (TS t) B (ltB B w x y z) := ltB_fr FrS.refl (by omega)
  obtain ⟨p1, p2, p3, p4⟩ := ltB_top (B := B) (w := w) (a := x) (b := y) (c := z)
  rw [h64] at p1 p2 p3 p4
  have t0 : 0 ≤ t := h.2.2.2.2.2.2.1
  exact ⟨CX_eq h (by rw [ltB_64, h64]) (by omega) (fun b y q => f b y (by unfold TS; omega)), f, p1, p2, p3, p4⟩
theorem X_pop (h : CX B ctx a (t + 1)) (t0 : 0 ≤ t) : CX (u2 B 64 0 t) ctx a t ∧ FrS (TS t) B (u2 B 64 0 t) := ⟨CX_eq h u2_same t0 (fun b y q => u2_bank (by omega)), FrS.u2 FrS.refl (by unfold TS; omega)⟩
theorem TS_CF {a t sp mk : Int} : ∀ b y, CF a t sp mk b y → TS t b y := by
  intro b y q
  unfold CF at q
  unfold TS
  omega
theorem X_em0 {c x y : Int} (h : CX B ctx a t) (n1 : ¬ c = 1) (n6 : ¬ c = 6) : CX (em0 B c x y) ctx (a + 1) t ∧ FrS (CF a t (B 48 0) (B 47 0)) B (em0 B c x y) ∧ em0 B c x y 48 0 = B 48 0 ∧ em0 B c x y 47 0 = B 47 0 ∧ em0 B c x y 42 a = c ∧ em0 B c x y 43 a = x ∧ em0 B c x y 44 a = y ∧ em0 B c x y 45 a = B 48 0 ∧ (∀ b z, ¬ (42 ≤ b ∧ b ≤ 46) → em0 B c x y b z = B b z) := by
  obtain ⟨h1, h2, h3, h4, h5, h6, h7, h8, h9, h10⟩ := h
  have ob : ∀ b z, ¬ (42 ≤ b ∧ b ≤ 46) → em0 B c x y b z = B b z := by
    intro b z hb
    unfold em0
    rw [u2_bank (by omega), u2_bank (by omega), u2_bank (by omega), u2_bank (by omega), u2_bank (by omega)]
  have oi : ∀ b z, b ≠ 46 → z ≠ a → em0 B c x y b z = B b z := by
    intro b z hb hz
    unfold em0
    rw [u2_bank hb, u2_idx (by omega), u2_idx (by omega), u2_idx (by omega), u2_idx (by omega)]
  have e46 : em0 B c x y 46 0 = a + 1 := by unfold em0; rw [u2_same, h1]
  have e42 : em0 B c x y 42 a = c := by rw [← h1]; simp [em0, u2]
  have e43 : em0 B c x y 43 a = x := by rw [← h1]; simp [em0, u2]
  have e44 : em0 B c x y 44 a = y := by rw [← h1]; simp [em0, u2]
  have e45 : em0 B c x y 45 a = B 48 0 := by rw [← h1]; simp [em0, u2]
  obtain ⟨g1, g2, g3, g4, g5⟩ := h10
  have ez : ∀ pc, pc ≤ a → zz (em0 B c x y) pc = zz B pc := by
    intro pc hp
    unfold zz
    rw [e46, h1, if_pos (by omega)]
    by_cases hpa : pc = a
    · rw [hpa, e45, if_neg (by omega)]
    · rw [oi 45 pc (by decide) hpa, if_pos (by omega)]
  refine ⟨⟨e46, by rw [ob 64 0 (by omega)]; exact h2, by rw [ob 55 0 (by omega)]; exact h3, CH_eq ctx (fun q _ => ob 53 q (by omega)) h4, fun q hq => by rw [ob 47 0 (by omega)]; exact h5 q hq, by omega, h7, by rw [ob 48 0 (by omega)]; exact h8, by rw [ob 47 0 (by omega)]; exact h9, ?_⟩, fun b z q => ?_, ob 48 0 (by omega), ob 47 0 (by omega), e42, e43, e44, e45, ob⟩
  · refine ⟨?_, ?_, ?_, ?_, ?_⟩
    · rw [ob 48 0 (by omega), ob 54 _ (by omega), ob 56 0 (by omega)]; exact g1
    · rw [ob 54 0 (by omega)]; exact g2
    · intro s s0 s1
      rw [ob 48 0 (by omega)] at s1
      rw [ob 54 _ (by omega), ob 54 _ (by omega)]
      exact g3 s s0 s1
    · rw [ez 0 h6]; exact g4
    · intro pc p0 p1
      rw [e46] at p1
      by_cases hpa : pc = a
      · subst hpa
        rw [e45, e42, if_neg (by omega)]
        unfold zz
        rw [e46, if_neg (by omega), ob 48 0 (by omega)]
        omega
      · rw [ez (pc + 1) (by omega), oi 45 pc (by decide) hpa, oi 42 pc (by decide) hpa]
        exact g5 pc p0 (by omega)
  · by_cases hb : 42 ≤ b ∧ b ≤ 46
    · exact oi b z (by unfold CF at q; omega) (by unfold CF at q; omega)
    · exact ob b z hb
theorem X_em1 {c x y : Int} (h : CX B ctx a t) (hc : c = 1 ∨ c = 6) (hl : ctx.length ≤ 10) : CX (u2 (em1 B c x y ctx.length) 46 0 (a + 1)) ctx (a + 1) t ∧ FrS (CF a t (B 48 0) (B 47 0)) B (u2 (em1 B c x y ctx.length) 46 0 (a + 1)) ∧ (u2 (em1 B c x y ctx.length) 46 0 (a + 1)) 48 0 = B 48 0 + 1 ∧ (u2 (em1 B c x y ctx.length) 46 0 (a + 1)) 47 0 = B 47 0 ∧ (u2 (em1 B c x y ctx.length) 46 0 (a + 1)) 42 a = c ∧ (u2 (em1 B c x y ctx.length) 46 0 (a + 1)) 43 a = x ∧ (u2 (em1 B c x y ctx.length) 46 0 (a + 1)) 44 a = y ∧ SpA (u2 (em1 B c x y ctx.length) 46 0 (a + 1)) (B 48 0 + 1) a ctx ∧ (∀ b z, ¬ ((42 ≤ b ∧ b ≤ 46) ∨ b = 48 ∨ b = 52 ∨ b = 54 ∨ b = 56) → (u2 (em1 B c x y ctx.length) 46 0 (a + 1)) b z = B b z) := by
  obtain ⟨h1, h2, h3, h4, h5, h6, h7, h8, h9, h10⟩ := h
  generalize hB' : u2 (em1 B c x y ctx.length) 46 0 (a + 1) = B'
  have ob : ∀ b z, ¬ ((42 ≤ b ∧ b ≤ 46) ∨ b = 48 ∨ b = 52 ∨ b = 54 ∨ b = 56) → B' b z = B b z := by
    intro b z hb
    rw [← hB']
    unfold em1
    rw [u2_bank (by omega), u2_bank (by omega), u2_bank (by omega), u2_bank (by omega), u2_bank (by omega), u2_bank (by omega), u2_bank (by omega), u2_bank (by omega), u2_bank (by omega), u2_bank (by omega)]
  have oi : ∀ b z, 42 ≤ b → b ≤ 45 → z ≠ a → B' b z = B b z := by
    intro b z hb hb2 hz
    rw [← hB']
    unfold em1
    rw [u2_bank (by omega), u2_bank (by omega), u2_bank (by omega), u2_bank (by omega), u2_bank (by omega), u2_bank (by omega), u2_idx (by omega), u2_idx (by omega), u2_idx (by omega), u2_idx (by omega)]
  have e46 : B' 46 0 = a + 1 := by rw [← hB', u2_same]
  have e48 : B' 48 0 = B 48 0 + 1 := by rw [← hB']; simp [em1, u2]
  have e56 : B' 56 0 = B 56 0 + 1 + ctx.length := by rw [← hB']; simp [em1, u2]
  have e42 : B' 42 a = c := by rw [← hB', ← h1]; simp [em1, u2]
  have e43 : B' 43 a = x := by rw [← hB', ← h1]; simp [em1, u2]
  have e44 : B' 44 a = y := by rw [← hB', ← h1]; simp [em1, u2]
  have e45 : B' 45 a = B 48 0 := by rw [← hB', ← h1]; simp [em1, u2]
  have e52 : B' 52 (B 48 0) = B 55 0 := by rw [← hB']; simp [em1, u2]
  have e54b : B' 54 (B 48 0 + 1) = B 56 0 + 1 + ctx.length := by rw [← hB']; simp [em1, u2]
  obtain ⟨g1, g2, g3, g4, g5⟩ := h10
  have e54 : ∀ z, z ≤ B 48 0 → B' 54 z = B 54 z := by
    intro z hz
    rw [← hB']
    unfold em1
    rw [u2_bank (by decide), u2_idx (by omega), u2_bank (by decide), u2_bank (by decide)]
    by_cases hzz : z = B 48 0
    · rw [hzz, u2_same]; exact g1.symm
    · rw [u2_idx hzz, u2_bank (by decide), u2_bank (by decide), u2_bank (by decide), u2_bank (by decide), u2_bank (by decide)]
  have o52 : ∀ z, z < B 48 0 → B' 52 z = B 52 z := by
    intro z hz
    rw [← hB']
    unfold em1
    rw [u2_bank (by decide), u2_bank (by decide), u2_bank (by decide), u2_bank (by decide), u2_bank (by decide), u2_idx (by omega), u2_bank (by decide), u2_bank (by decide), u2_bank (by decide), u2_bank (by decide)]
  have ez : ∀ pc, pc ≤ a → zz B' pc = zz B pc := by
    intro pc hp
    unfold zz
    rw [e46, h1, if_pos (by omega)]
    by_cases hpa : pc = a
    · rw [hpa, e45, if_neg (by omega)]
    · rw [oi 45 pc (by decide) (by decide) hpa, if_pos (by omega)]
  refine ⟨⟨e46, by rw [ob 64 0 (by omega)]; exact h2, by rw [ob 55 0 (by omega)]; exact h3, CH_eq ctx (fun q _ => ob 53 q (by omega)) h4, fun q hq => by rw [ob 47 0 (by omega)]; exact h5 q hq, by omega, h7, by rw [e48]; omega, by rw [ob 47 0 (by omega)]; exact h9, ?_⟩, fun b z q => ?_, e48, ob 47 0 (by omega), e42, e43, e44, ?_, ob⟩
  · refine ⟨?_, ?_, ?_, ?_, ?_⟩
    · rw [e48, e54b, e56]
    · rw [e54 0 h8]; exact g2
    · intro s s0 s1
      rw [e48] at s1
      by_cases hs : s = B 48 0
      · subst hs
        rw [e54b, e54 _ (Int.le_refl _), g1]
        omega
      · rw [e54 _ (by omega), e54 _ (by omega)]
        exact g3 s s0 (by omega)
    · rw [ez 0 h6]; exact g4
    · intro pc p0 p1
      rw [e46] at p1
      by_cases hpa : pc = a
      · subst hpa
        rw [e45, e42, if_pos hc]
        unfold zz
        rw [e46, if_neg (by omega), e48]
      · rw [ez (pc + 1) (by omega), oi 45 pc (by decide) (by decide) hpa, oi 42 pc (by decide) (by decide) hpa]
        exact g5 pc p0 (by omega)
  · by_cases hb : (42 ≤ b ∧ b ≤ 46) ∨ b = 48 ∨ b = 52 ∨ b = 54 ∨ b = 56
    · unfold CF at q
      by_cases hb2 : 42 ≤ b ∧ b ≤ 45
      · exact oi b z hb2.1 hb2.2 (by omega)
      · by_cases hb3 : b = 52
        · rw [hb3]; exact o52 z (by omega)
        · have : b = 54 := by omega
          rw [this]; exact e54 z (by omega)
    · exact ob b z hb
  · refine ⟨by rw [e45]; exact h8, by rw [e45]; omega, by rw [e45, e52]; exact h3, ?_⟩
    rw [e45, e54b, e54 _ (Int.le_refl _), g1]
end XX
