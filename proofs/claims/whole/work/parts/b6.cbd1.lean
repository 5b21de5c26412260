/-! THE CLASS'S BUILDER: how a tree is laid out as steps. P j s: cell s of row j of the program; P 7: the level of a step (1: within a lookahead or kept rounds) -/
abbrev qP : Type := Nat → Int → Int
def pvw (B : qB) (a : Nat) (I : Int → Int) : qP := fun j s => if j = 7 then I s else B (a + j) s
/-- step s of kind k that goes on to n -/
def stp (P : qP) (N0 N lv s k n d : Int) : Prop := P 1 s = k ∧ P 3 s = n ∧ P 5 s = d ∧ P 7 s = lv ∧ N0 ≤ s ∧ s < N
/-- step s of kind k with two ways on -/
def spl (P : qP) (N0 N lv s k x y d : Int) : Prop := P 1 s = k ∧ P 3 s = x ∧ P 4 s = y ∧ P 5 s = d ∧ P 7 s = lv ∧ N0 ≤ s ∧ s < N
def LyIt (R : Int → Int → Prop) : Nat → Int → Int → Prop
  | 0, s, n => s = n
  | k + 1, s, n => ∃ t, R s t ∧ LyIt R k t n
def LyO (P : qP) (N0 N lv : Int) (R : Int → Int → Prop) (lz : Bool) (n d : Int) : Nat → Int → Prop
  | 0, t => t = n
  | k + 1, t => ∃ b u, spl P N0 N lv t 15 (if lz = true then n else b) (if lz = true then b else n) d ∧ R b u ∧ LyO P N0 N lv R lz n d k u
/-- rounds beyond the least -/
def LyM (P : qP) (N0 N lv : Int) (R : Int → Int → Int → Prop) (lz : Bool) (l h t n d : Int) : Prop := if h < 0 then ∃ r b, spl P N0 N lv t 15 (if lz = true then n else b) (if lz = true then b else n) d ∧ (stp P N0 N lv r 16 t d ∧ P 2 r = d + 1) ∧ R b r (d + 1) else LyO P N0 N lv (fun s n => R s n d) lz n d (h - l).toNat t
def LyR (P : qP) (N0 N lv : Int) (R : Int → Int → Int → Prop) (lz : Bool) (l h s n d : Int) : Prop := ∃ t, LyIt (fun s n => R s n d) l.toNat s t ∧ LyM P N0 N lv R lz l h t n d
def ent (P : qP) (N0 N lv m s s1 al d : Int) : Prop := if m = 1 then spl P N0 N lv s 15 s1 al d else s1 = s
/-- the steps of a tree: entry s, then n; mode 1: al is tried behind it -/
def Ly (P : qP) (H : Int → Nat → Option Bool) (N0 N : Int) : qT → Int → Int → Int → Int → Int → Int → Prop
  | .num k, lv, m, s, n, d, al => ∃ s1, ent P N0 N lv m s s1 al d ∧ (if k = 0 then s1 = n else stp P N0 N lv s1 (k + 2) n d)
  | .var σ, lv, _, s, n, d, _ => (stp P N0 N lv s 1 n d ∧ (0 ≤ P 2 s ∧ P 2 s ≤ 255) ∧ ∀ c : Nat, c < 256 → σ.testBit c = decide ((c : Int) = P 2 s)) ∨ (stp P N0 N lv s 2 n d ∧ 0 ≤ P 2 s ∧ P 2 s < 200 ∧ ∀ c : Nat, c < 256 → H (P 2 s) c = some (σ.testBit c))
  | .add x y, lv, m, s, n, d, al => ∃ s1 t, ent P N0 N lv m s s1 al d ∧ Ly P H N0 N x lv 0 s1 t d 0 ∧ Ly P H N0 N y lv 0 t n d 0
  | .sub x y, lv, m, s, n, d, al => ∃ t, Ly P H N0 N y lv m t n d al ∧ Ly P H N0 N x lv 1 s n d t
  | .neg x, lv, _, s, n, d, _ => Ly P H N0 N x lv 0 s n d 0
  | .mulL k x, lv, _, s, n, d, _ => if 1 ≤ k then (∃ t u, (stp P N0 N lv s 17 t d ∧ P 2 s = 2 * k) ∧ Ly P H N0 N x lv 0 t u d 0 ∧ (stp P N0 N lv u 17 n d ∧ P 2 u = 2 * k + 1)) else ∃ t, spl P N0 N lv s (if k = 0 then 7 else 8) n t d ∧ Ly P H N0 N x 1 0 t 0 0 0
  | .mulR x k, lv, _, s, n, d, _ => if rg k = 2 then (∃ t, spl P N0 N lv s 14 n t d ∧ LyR P N0 N 1 (fun s n d => Ly P H N0 N x 1 0 s n d 0) false (rl k) (rh k) t 0 0) else LyR P N0 N lv (fun s n d => Ly P H N0 N x lv 0 s n d 0) (decide (rg k = 1)) (rl k) (rh k) s n d
section LYF
variable {P P' : qP} {H : Int → Nat → Option Bool} {N0 N N0' N' : Int}
theorem stp_fr {lv s k n d : Int} (hf : ∀ j s, 1 ≤ j → j ≤ 7 → N0 ≤ s → s < N → P' j s = P j s) (h0 : N0' ≤ N0) (h1 : N ≤ N') (h : stp P N0 N lv s k n d) : stp P' N0' N' lv s k n d := by
  obtain ⟨a1, a2, a3, a4, a5, a6⟩ := h
  exact ⟨by rw [hf 1 s (by decide) (by decide) a5 a6]; exact a1, by rw [hf 3 s (by decide) (by decide) a5 a6]; exact a2, by rw [hf 5 s (by decide) (by decide) a5 a6]; exact a3, by rw [hf 7 s (by decide) (by decide) a5 a6]; exact a4, by omega, by omega⟩
theorem spl_fr {lv s k x y d : Int} (hf : ∀ j s, 1 ≤ j → j ≤ 7 → N0 ≤ s → s < N → P' j s = P j s) (h0 : N0' ≤ N0) (h1 : N ≤ N') (h : spl P N0 N lv s k x y d) : spl P' N0' N' lv s k x y d := by
  obtain ⟨a1, a2, a3, a3', a4, a5, a6⟩ := h
  exact ⟨by rw [hf 1 s (by decide) (by decide) a5 a6]; exact a1, by rw [hf 3 s (by decide) (by decide) a5 a6]; exact a2, by rw [hf 4 s (by decide) (by decide) a5 a6]; exact a3, by rw [hf 5 s (by decide) (by decide) a5 a6]; exact a3', by rw [hf 7 s (by decide) (by decide) a5 a6]; exact a4, by omega, by omega⟩
theorem ent_fr {lv m s s1 al d : Int} (hf : ∀ j s, 1 ≤ j → j ≤ 7 → N0 ≤ s → s < N → P' j s = P j s) (h0 : N0' ≤ N0) (h1 : N ≤ N') (h : ent P N0 N lv m s s1 al d) : ent P' N0' N' lv m s s1 al d := by
  unfold ent at h ⊢
  split at h
  · rename_i hm; rw [if_pos hm]; exact spl_fr hf h0 h1 h
  · rename_i hm; rw [if_neg hm]; exact h
theorem LyIt_mono {R R' : Int → Int → Prop} (hR : ∀ s n, R s n → R' s n) : ∀ k s n, LyIt R k s n → LyIt R' k s n := by
  intro k
  induction k with
  | zero => intro s n h; exact h
  | succ k ih =>
    intro s n h
    obtain ⟨t, h1, h2⟩ := h
    exact ⟨t, hR _ _ h1, ih _ _ h2⟩
theorem LyO_fr {lv n d : Int} {lz : Bool} {R R' : Int → Int → Prop} (hf : ∀ j s, 1 ≤ j → j ≤ 7 → N0 ≤ s → s < N → P' j s = P j s) (h0 : N0' ≤ N0) (h1 : N ≤ N') (hR : ∀ s n, R s n → R' s n) : ∀ k t, LyO P N0 N lv R lz n d k t → LyO P' N0' N' lv R' lz n d k t := by
  intro k
  induction k with
  | zero => intro t h; exact h
  | succ k ih =>
    intro t h
    obtain ⟨b, u, g1, g2, g3⟩ := h
    exact ⟨b, u, spl_fr hf h0 h1 g1, hR _ _ g2, ih _ g3⟩
theorem LyM_fr {lv l h t n d : Int} {lz : Bool} {R R' : Int → Int → Int → Prop} (hf : ∀ j s, 1 ≤ j → j ≤ 7 → N0 ≤ s → s < N → P' j s = P j s) (h0 : N0' ≤ N0) (h1 : N ≤ N') (hR : ∀ s n d, R s n d → R' s n d) (hL : LyM P N0 N lv R lz l h t n d) : LyM P' N0' N' lv R' lz l h t n d := by
  unfold LyM at hL ⊢
  split at hL
  · rename_i hh
    rw [if_pos hh]
    obtain ⟨r, b, g1, g2, g3⟩ := hL
    have g5 := g2.1.2.2.2.2
    exact ⟨r, b, spl_fr hf h0 h1 g1, ⟨stp_fr hf h0 h1 g2.1, by rw [hf 2 r (by decide) (by decide) g5.1 g5.2]; exact g2.2⟩, hR _ _ _ g3⟩
  · rename_i hh
    rw [if_neg hh]
    exact LyO_fr hf h0 h1 (fun s n => hR s n d) _ _ hL
theorem LyR_fr {lv l h s n d : Int} {lz : Bool} {R R' : Int → Int → Int → Prop} (hf : ∀ j s, 1 ≤ j → j ≤ 7 → N0 ≤ s → s < N → P' j s = P j s) (h0 : N0' ≤ N0) (h1 : N ≤ N') (hR : ∀ s n d, R s n d → R' s n d) (hL : LyR P N0 N lv R lz l h s n d) : LyR P' N0' N' lv R' lz l h s n d := by
  obtain ⟨t, g1, g2⟩ := hL
  exact ⟨t, LyIt_mono (fun s n => hR s n d) _ _ _ g1, LyM_fr hf h0 h1 hR g2⟩
theorem Ly_fr (hf : ∀ j s, 1 ≤ j → j ≤ 7 → N0 ≤ s → s < N → P' j s = P j s) (h0 : N0' ≤ N0) (h1 : N ≤ N') : ∀ (e : qT) (lv m s n d al : Int), Ly P H N0 N e lv m s n d al → Ly P' H N0' N' e lv m s n d al := by
  intro e
  induction e with
  | num k =>
    intro lv m s n d al h
    obtain ⟨s1, g1, g2⟩ := h
    refine ⟨s1, ent_fr hf h0 h1 g1, ?_⟩
    split at g2
    · rename_i hk; rw [if_pos hk]; exact g2
    · rename_i hk; rw [if_neg hk]; exact stp_fr hf h0 h1 g2
  | var σ =>
    intro lv m s n d al h
    rcases h with ⟨g1, g2⟩ | ⟨g1, g2, g3, g4⟩
    · have b := g1.2.2.2.2
      have e := hf 2 s (by decide) (by decide) b.1 b.2
      exact Or.inl ⟨stp_fr hf h0 h1 g1, by rw [e]; exact g2⟩
    · have b := g1.2.2.2.2
      have e := hf 2 s (by decide) (by decide) b.1 b.2
      exact Or.inr ⟨stp_fr hf h0 h1 g1, by rw [e]; exact g2, by rw [e]; exact g3, by rw [e]; exact g4⟩
  | add x y hx hy =>
    intro lv m s n d al h
    obtain ⟨s1, t, g1, g2, g3⟩ := h
    exact ⟨s1, t, ent_fr hf h0 h1 g1, hx _ _ _ _ _ _ g2, hy _ _ _ _ _ _ g3⟩
  | sub x y hx hy =>
    intro lv m s n d al h
    obtain ⟨t, g1, g2⟩ := h
    exact ⟨t, hy _ _ _ _ _ _ g1, hx _ _ _ _ _ _ g2⟩
  | neg x hx => intro lv m s n d al h; exact hx _ _ _ _ _ _ h
  | mulL k x hx =>
    intro lv m s n d al h
    unfold Ly at h ⊢
    by_cases hk : 1 ≤ k
    · rw [if_pos hk] at h ⊢
      obtain ⟨t, u, g1, g2, g3⟩ := h
      have b := g1.1.2.2.2.2
      have b' := g3.1.2.2.2.2
      exact ⟨t, u, ⟨stp_fr hf h0 h1 g1.1, by rw [hf 2 s (by decide) (by decide) b.1 b.2]; exact g1.2⟩, hx _ _ _ _ _ _ g2, ⟨stp_fr hf h0 h1 g3.1, by rw [hf 2 u (by decide) (by decide) b'.1 b'.2]; exact g3.2⟩⟩
    · rw [if_neg hk] at h ⊢
      obtain ⟨t, g1, g2⟩ := h
      exact ⟨t, spl_fr hf h0 h1 g1, hx _ _ _ _ _ _ g2⟩
  | mulR x k hx =>
    intro lv m s n d al h
    unfold Ly at h ⊢
    by_cases hk : rg k = 2
    · rw [if_pos hk] at h ⊢
      obtain ⟨t, g1, g2⟩ := h
      exact ⟨t, spl_fr hf h0 h1 g1, LyR_fr hf h0 h1 (fun s n d w => hx _ _ _ _ _ _ w) g2⟩
    · rw [if_neg hk] at h ⊢
      exact LyR_fr hf h0 h1 (fun s n d w => hx _ _ _ _ _ _ w) h
end LYF
/-- how many steps, how many of them with a slot -/
def stc : qT → Int
  | .num k => if k = 0 then 0 else 1
  | .var _ => 1
  | .add a b => stc a + stc b
  | .sub a b => stc a + stc b + 1
  | .neg a => stc a
  | .mulL k a => stc a + (if 1 ≤ k then 2 else 1)
  | .mulR a k => rl k * stc a + (if rh k < 0 then stc a + 2 else (rh k - rl k) * (stc a + 1)) + (if rg k = 2 then 1 else 0)
def spc : qT → Int
  | .num _ => 0
  | .var _ => 0
  | .add a b => spc a + spc b
  | .sub a b => spc a + spc b + 1
  | .neg a => spc a
  | .mulL k a => spc a + (if 1 ≤ k then 0 else 1)
  | .mulR a k => rl k * spc a + (if rh k < 0 then spc a + 1 else (rh k - rl k) * (spc a + 1)) + (if rg k = 2 then 1 else 0)
theorem stc_nn : ∀ e : qT, wf e → 0 ≤ stc e ∧ 0 ≤ spc e := by
  intro e
  induction e with
  | num k => intro _; refine ⟨?_, Int.le_refl _⟩; unfold stc; split <;> decide
  | var s => intro _; exact ⟨(by decide : (0 : Int) ≤ 1), Int.le_refl _⟩
  | add a b h1 h2 => intro h; have := h1 h.1; have := h2 h.2; unfold stc spc; omega
  | sub a b h1 h2 => intro h; have := h1 h.1; have := h2 h.2; unfold stc spc; omega
  | neg a h1 => intro h; exact h1 h
  | mulL k a h1 => intro h; have := h1 h.2.2; unfold stc spc; split <;> omega
  | mulR a k h1 =>
    intro h
    obtain ⟨g1, g2, g3, g4, g5, g6, g7⟩ := h
    have h2 := h1 g7
    unfold stc spc
    have e1 : 0 ≤ rl k * stc a := Int.mul_nonneg g1 h2.1
    have e2 : 0 ≤ rl k * spc a := Int.mul_nonneg g1 h2.2
    have e5 : 0 ≤ (if rg k = 2 then (1 : Int) else 0) := by split <;> omega
    by_cases hh : rh k < 0
    · rw [if_pos hh, if_pos hh]; omega
    · rw [if_neg hh, if_neg hh]
      have e3 : 0 ≤ (rh k - rl k) * (stc a + 1) := Int.mul_nonneg (by omega) (by omega)
      have e4 : 0 ≤ (rh k - rl k) * (spc a + 1) := Int.mul_nonneg (by omega) (by omega)
      omega
def skd (k : Int) : Int := if k = 15 ∨ k = 14 ∨ k = 7 ∨ k = 8 then 1 else 0
theorem skd_01 (k : Int) : 0 ≤ skd k ∧ skd k ≤ 1 := by unfold skd; split <;> decide
/-- slots are given in order -/
def SlI (B : qB) (a : Nat) : Prop := (∀ s, 0 ≤ s → s < B a 7 → 0 ≤ B (a + 6) s ∧ B (a + 6) s + skd (B (a + 1) s) ≤ B a 8) ∧ (∀ s s', 0 ≤ s → s < s' → s' < B a 7 → B (a + 6) s + skd (B (a + 1) s) ≤ B (a + 6) s')
def BSt (B : qB) (a : Nat) : Prop := SH B ∧ ob 5 a ∧ B 101 1 = (a : Int) ∧ (1 ≤ B a 7 ∧ B a 7 ≤ 608) ∧ 0 ≤ B a 8 ∧ SlI B a
def BE (a : Nat) (B B' : qB) (I I' : Int → Int) : Prop := (∀ b x, ¬ (a ≤ b ∧ b ≤ a + 6) → B' b x = B b x) ∧ (∀ x, x ≠ 7 → x ≠ 8 → B' a x = B a x) ∧ B a 7 ≤ B' a 7 ∧ (∀ j x, 1 ≤ j → j ≤ 6 → 0 ≤ x → x < B a 7 → B' (a + j) x = B (a + j) x) ∧ (∀ x, x < B a 7 → I' x = I x)
theorem BE.refl {a : Nat} {B : qB} {I : Int → Int} : BE a B B I I := ⟨fun _ _ _ => rfl, fun _ _ _ => rfl, Int.le_refl _, fun _ _ _ _ _ _ => rfl, fun _ _ => rfl⟩
theorem BE.tr {a : Nat} {B B1 B2 : qB} {I I1 I2 : Int → Int} (h : BE a B B1 I I1) (g : BE a B1 B2 I1 I2) : BE a B B2 I I2 := by
  obtain ⟨h1, h2, h3, h4, h5⟩ := h
  obtain ⟨g1, g2, g3, g4, g5⟩ := g
  exact ⟨fun b x q => (g1 b x q).trans (h1 b x q), fun x q1 q2 => (g2 x q1 q2).trans (h2 x q1 q2), by omega, fun j x j0 j1 x0 x1 => (g4 j x j0 j1 x0 (by omega)).trans (h4 j x j0 j1 x0 x1), fun x hx => (g5 x (by omega)).trans (h5 x hx)⟩
/-- the view of what was laid before stays -/
theorem BE.pv {a : Nat} {B B' : qB} {I I' : Int → Int} (h : BE a B B' I I') {N0 : Int} (h0 : 0 ≤ N0) : ∀ j s, 1 ≤ j → j ≤ 7 → N0 ≤ s → s < B a 7 → pvw B' a I' j s = pvw B a I j s := by
  intro j s j0 j1 s0 s1
  unfold pvw
  by_cases hj : j = 7
  · rw [if_pos hj, if_pos hj]; exact h.2.2.2.2 s s1
  · rw [if_neg hj, if_neg hj]; exact h.2.2.2.1 j s j0 (by omega) (by omega) s1
section ADD
variable {a : Nat} {B : qB} {k v n e : Int}
theorem paC_o (b : Nat) (x : Int) (h : ¬ (a ≤ b ∧ b ≤ a + 6)) : paC B a k v n e b x = B b x := by
  unfold paC paS
  split
  · rw [u2_bank (by omega), u2_bank (by omega), u2_bank (by omega), u2_bank (by omega), u2_bank (by omega), u2_bank (by omega), u2_bank (by omega), u2_bank (by omega)]
  · rw [u2_bank (by omega), u2_bank (by omega), u2_bank (by omega), u2_bank (by omega), u2_bank (by omega), u2_bank (by omega), u2_bank (by omega)]
theorem paS_a (x : Int) : paS B a k v n e a x = if x = 7 then B a 7 + 1 else B a x := by
  unfold paS
  rw [u2_bank (by omega), u2_bank (by omega), u2_bank (by omega), u2_bank (by omega), u2_bank (by omega), u2_bank (by omega)]
  by_cases hx : x = 7
  · rw [if_pos hx, hx, u2_same]
  · rw [if_neg hx, u2_idx hx]
theorem paC_a (x : Int) : paC B a k v n e a x = if x = 7 then B a 7 + 1 else if x = 8 then B a 8 + skd k else B a x := by
  unfold paC skd
  by_cases hk : k = 15 ∨ k = 14 ∨ k = 7 ∨ k = 8
  · rw [if_pos hk, if_pos hk]
    by_cases h8 : x = 8
    · rw [h8, u2_same, if_neg (by decide), if_pos rfl]
    · rw [u2_idx h8, paS_a, if_neg h8]
  · rw [if_neg hk, if_neg hk, paS_a]
    by_cases h8 : x = 8
    · rw [h8, if_neg (by decide), if_neg (by decide), if_pos rfl]; omega
    · rw [if_neg h8]
theorem paC_j (j : Nat) (x : Int) (j0 : 1 ≤ j) (j1 : j ≤ 6) : paC B a k v n e (a + j) x = if x = B a 7 then (if j = 1 then k else if j = 2 then v else if j = 3 then n else if j = 4 then 0 else if j = 5 then e else B a 8) else B (a + j) x := by
  have hS : paC B a k v n e (a + j) x = paS B a k v n e (a + j) x := by
    unfold paC
    split
    · exact u2_bank (by omega)
    · rfl
  rw [hS]
  unfold paS
  have u : ∀ (C : qB) (i : Nat) (z : Int), u2 C (a + i) (B a 7) z (a + j) x = if j = i then (if x = B a 7 then z else C (a + j) x) else C (a + j) x := fun C i z => by
    by_cases hi : j = i
    · subst hi
      rw [if_pos rfl]
      by_cases hx : x = B a 7
      · rw [if_pos hx, hx, u2_same]
      · rw [if_neg hx, u2_idx hx]
    · rw [if_neg hi, u2_bank (by omega)]
  rw [u, u, u, u, u, u, u2_bank (by omega)]
  by_cases hx : x = B a 7
  · simp only [if_pos hx]
    have hj : j = 1 ∨ j = 2 ∨ j = 3 ∨ j = 4 ∨ j = 5 ∨ j = 6 := by omega
    rcases hj with rfl | rfl | rfl | rfl | rfl | rfl <;> rfl
  · simp only [if_neg hx, ite_self]
/-- a step is added -/
theorem BSt_add (h : BSt B a) (hN : B a 7 < 608) (hk : R32 k) : BSt (paC B a k v n e) a := by
  obtain ⟨h1, h2, h3, h4, h5, h6, h7⟩ := h
  have hal := ob.lt h2
  have a101 : ¬ (a ≤ 101 ∧ 101 ≤ a + 6) := by
    have := oa5 h2 5 (by decide)
    have h9 := this.2.1
    intro w
    have e1 := h2.1
    have e2 : ∀ j, j < 6 → shp (a + 1 + j) = 6181 := fun j hj => (oa5 h2 j hj).1
    have e3 : shp 101 = 1 := by decide
    by_cases hh : a = 101
    · rw [hh, e3] at e1; exact absurd e1 (by decide)
    · have := e2 (101 - a - 1) (by omega)
      rw [show a + 1 + (101 - a - 1) = 101 by omega, e3] at this
      exact absurd this (by decide)
  have k01 := skd_01 k
  have e7 : paC B a k v n e a 7 = B a 7 + 1 := by rw [paC_a, if_pos rfl]
  have e8 : paC B a k v n e a 8 = B a 8 + skd k := by rw [paC_a, if_neg (by decide), if_pos rfl]
  have g1 : ∀ s, paC B a k v n e (a + 1) s = if s = B a 7 then k else B (a + 1) s := fun s => by rw [paC_j 1 s (by decide) (by decide)]; rfl
  have g6 : ∀ s, paC B a k v n e (a + 6) s = if s = B a 7 then B a 8 else B (a + 6) s := fun s => by rw [paC_j 6 s (by decide) (by decide)]; rfl
  refine ⟨S_Pr_add h1 h2 (by omega) hN hk, h2, by rw [paC_o 101 1 a101]; exact h3, by rw [e7]; omega, by rw [e8]; omega, ⟨fun s s0 s1 => ?_, fun s s' s0 ss s1 => ?_⟩⟩
  · rw [g1, g6, e8]
    rw [e7] at s1
    by_cases hs : s = B a 7
    · rw [if_pos hs, if_pos hs]; omega
    · rw [if_neg hs, if_neg hs]
      have := h6 s s0 (by omega)
      omega
  · rw [g1, g6, g6]
    rw [e7] at s1
    rw [if_neg (show ¬ s = B a 7 by omega), if_neg (show ¬ s = B a 7 by omega)]
    by_cases hs : s' = B a 7
    · rw [if_pos hs]; exact (h6 s s0 (by omega)).2
    · rw [if_neg hs]; exact h7 s s' s0 ss (by omega)
def gI (I : Int → Int) (N lv : Int) : Int → Int := fun s => if s = N then lv else I s
theorem BE_add {I : Int → Int} {lv : Int} (h4 : 0 ≤ B a 7) : BE a B (paC B a k v n e) I (gI I (B a 7) lv) := by
  refine ⟨fun b x q => paC_o b x q, fun x q1 q2 => by rw [paC_a, if_neg q1, if_neg q2], by rw [paC_a, if_pos rfl]; omega, fun j x j0 j1 x0 x1 => by rw [paC_j j x j0 j1, if_neg (by omega)], fun x hx => ?_⟩
  unfold gI
  rw [if_neg (by omega)]
theorem pv_add {I : Int → Int} {lv : Int} : pvw (paC B a k v n e) a (gI I (B a 7) lv) 1 (B a 7) = k ∧ pvw (paC B a k v n e) a (gI I (B a 7) lv) 2 (B a 7) = v ∧ pvw (paC B a k v n e) a (gI I (B a 7) lv) 3 (B a 7) = n ∧ pvw (paC B a k v n e) a (gI I (B a 7) lv) 4 (B a 7) = 0 ∧ pvw (paC B a k v n e) a (gI I (B a 7) lv) 5 (B a 7) = e ∧ pvw (paC B a k v n e) a (gI I (B a 7) lv) 7 (B a 7) = lv := by
  have p : ∀ j : Nat, 1 ≤ j → j ≤ 6 → pvw (paC B a k v n e) a (gI I (B a 7) lv) j (B a 7) = (if j = 1 then k else if j = 2 then v else if j = 3 then n else if j = 4 then 0 else if j = 5 then e else B a 8) := fun j j0 j1 => by
    unfold pvw
    rw [if_neg (by omega), paC_j j _ j0 j1, if_pos rfl]
  refine ⟨p 1 (by decide) (by decide), p 2 (by decide) (by decide), p 3 (by decide) (by decide), p 4 (by decide) (by decide), p 5 (by decide) (by decide), ?_⟩
  show gI I (B a 7) lv (B a 7) = lv
  unfold gI
  rw [if_pos rfl]
end ADD
/-- the ways on of a step are set -/
def brnC (B : qB) (a : Nat) (s x y : Int) : qB := u2 (u2 B (a + 3) s x) (a + 4) s y
section BRN
variable {a : Nat} {B : qB} {s x y : Int}
theorem brn_o (b : Nat) (z : Int) (h : ¬ ((b = a + 3 ∨ b = a + 4) ∧ z = s)) : brnC B a s x y b z = B b z := by
  unfold brnC
  have u : ∀ (C : qB) (b' : Nat) (v : Int), ¬ (b = b' ∧ z = s) → u2 C b' s v b z = C b z := fun C b' v hn => by
    by_cases hb : b = b'
    · subst hb; exact u2_idx (fun w => hn ⟨rfl, w⟩)
    · exact u2_bank hb
  rw [u _ _ _ (by omega), u _ _ _ (by omega)]
theorem brn_3 : brnC B a s x y (a + 3) s = x := by unfold brnC; rw [u2_bank (by omega), u2_same]
theorem brn_4 : brnC B a s x y (a + 4) s = y := by unfold brnC; rw [u2_same]
theorem BSt_brn (h : BSt B a) (s0 : 0 ≤ s) : BSt (brnC B a s x y) a := by
  obtain ⟨h1, h2, h3, h4, h5, h6, h7⟩ := h
  have ea : ∀ z, brnC B a s x y a z = B a z := fun z => brn_o a z (by omega)
  have e1 : ∀ z, brnC B a s x y (a + 1) z = B (a + 1) z := fun z => brn_o (a + 1) z (by omega)
  have e6 : ∀ z, brnC B a s x y (a + 6) z = B (a + 6) z := fun z => brn_o (a + 6) z (by omega)
  have h98 : brnC B a s x y 101 1 = B 101 1 := by
    by_cases hs : (1 : Int) = s
    · refine brn_o 101 1 (fun w => ?_)
      have e3 : shp 101 = 1 := by decide
      rcases w.1 with w | w
      · have := (oa5 h2 2 (by decide)).1
        rw [show a + 1 + 2 = 101 by omega, e3] at this
        exact absurd this (by decide)
      · have := (oa5 h2 3 (by decide)).1
        rw [show a + 1 + 3 = 101 by omega, e3] at this
        exact absurd this (by decide)
    · exact brn_o 101 1 (fun w => hs w.2)
  refine ⟨SH_u2 (SH_u2 h1 s0) s0, h2, by rw [h98]; exact h3, by rw [ea]; exact h4, by rw [ea]; exact h5, fun s s0 s1 => ?_, fun s s' s0 ss s1 => ?_⟩
  · rw [ea] at s1 ⊢; rw [e1, e6]; exact h6 s s0 s1
  · rw [ea] at s1; rw [e1, e6, e6]; exact h7 s s' s0 ss s1
theorem BE_brn {C : qB} {I I' : Int → Int} (h : BE a C B I I') (hs : C a 7 ≤ s) (hs2 : s < B a 7) : BE a C (brnC B a s x y) I I' := by
  obtain ⟨h1, h2, h3, h4, h5⟩ := h
  refine ⟨fun b z q => by rw [brn_o b z (by omega)]; exact h1 b z q, fun z q1 q2 => by rw [brn_o a z (by omega)]; exact h2 z q1 q2, by rw [brn_o a 7 (by omega)]; exact h3, fun j z j0 j1 z0 z1 => by rw [brn_o (a + j) z (by omega)]; exact h4 j z j0 j1 z0 z1, h5⟩
theorem pv_brn {I : Int → Int} (j : Nat) (z : Int) (h : z ≠ s ∨ (j ≠ 3 ∧ j ≠ 4)) : pvw (brnC B a s x y) a I j z = pvw B a I j z := by
  unfold pvw
  split
  · rfl
  · exact brn_o (a + j) z (by omega)
theorem pv_brn3 {I : Int → Int} : pvw (brnC B a s x y) a I 3 s = x ∧ pvw (brnC B a s x y) a I 4 s = y := ⟨brn_3, brn_4⟩
end BRN
