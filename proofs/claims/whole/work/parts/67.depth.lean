/-! WHAT IS READ IS NOT TOO DEEP -/
/-- a part: an atom or a bracket, with or without rounds -/
def tE (q : qT) : Prop := th q ≤ 43 * (sd q + 1) + 4 * ln q + 1 ∧ 1 ≤ ln q ∧ -1 ≤ sd q
/-- a row or ways -/
def tR (r : qT) : Prop := th r ≤ 43 * (sd r + 1) + 4 * ln r + 3 ∧ (ln r = 0 → th r = 1) ∧ -1 ≤ sd r
def frT : List sF → Prop
  | [] => True
  | (_, _, wy, rw) :: r => tR rw ∧ sd rw ≤ 10 - r.length ∧ (match wy with
    | none => True
    | some w => tR w ∧ sd w ≤ 10 - r.length) ∧ frT r
theorem tR_0 : tR (.num 0) := ⟨by decide, fun _ => rfl, by decide⟩
theorem tE_at {sg : Int → Int} {e : qT} {a b : Int} (h : sAt sg a = .ok (e, b)) : tE e ∧ sd e = -1 := by
  have nm : ∀ k : Int, 1 ≤ k → tE (.num k) ∧ sd (.num k) = -1 := by
    intro k hk
    have e1 : ln (.num k) = 1 := by unfold ln; rw [if_neg (by omega)]
    refine ⟨⟨?_, by omega, (by decide : (-1 : Int) ≤ -1)⟩, rfl⟩
    rw [e1]
    exact (by decide : (1 : Int) ≤ 43 * (-1 + 1) + 4 * 1 + 1)
  have vr : ∀ s, tE (.var s) ∧ sd (.var s) = -1 := fun s => ⟨⟨(by decide : (1 : Int) ≤ 43 * (-1 + 1) + 4 * 1 + 1), (by decide : (1 : Int) ≤ 1), (by decide : (-1 : Int) ≤ -1)⟩, rfl⟩
  unfold sAt at h
  split at h
  · cases h
  · split at h
    · cases h; exact nm 1 (by decide)
    · split at h
      · cases h; exact nm 2 (by decide)
      · split at h
        · split at h
          · cases h; exact nm 3 (by decide)
          · split at h
            · cases h; exact nm 4 (by decide)
            · split at h
              · cases h
              · cases h; exact vr _
        · split at h
          · cases h; exact vr _
          · split at h
            · split at h
              · cases h
              · cases h; exact vr _
            · cases h; exact vr _
theorem tE_R {e : qT} (k : Int) (h : tE e) : tE (.mulR e k) ∧ sd (.mulR e k) = max 0 (sd e + 1) := by
  obtain ⟨h1, h2, h3⟩ := h
  have e1 : th (.mulR e k) = 43 + th e := rfl
  have e2 : sd (.mulR e k) = max 0 (sd e + 1) := rfl
  have e3 : ln (.mulR e k) = ln e + 1 := rfl
  exact ⟨⟨by omega, by omega, by omega⟩, e2⟩
theorem tE_qt {sg : Int → Int} {lk : Int} {e q : qT} {a b : Int} (h : tE e) (hq : sQt sg lk e a = .ok (q, b)) : tE q ∧ sd q ≤ max 0 (sd e + 1) := by
  obtain ⟨h1, h2, h3⟩ := h
  have tl : ∀ l' h' a', sTl sg lk e l' h' a' = .ok (q, b) → tE q ∧ sd q ≤ max 0 (sd e + 1) := by
    intro l' h' a' ht
    obtain ⟨-, g, -, -, rfl⟩ := sTl_bd ht
    have := tE_R (rc l' h' g) ⟨h1, h2, h3⟩
    exact ⟨this.1, by rw [this.2]; exact Int.le_refl _⟩
  unfold sQt at hq
  split at hq
  · split at hq
    · cases hq
    · split at hq
      · split at hq
        · cases hq
        · split at hq
          · split at hq
            · exact tl _ _ _ hq
            · split at hq
              · cases hq
              · split at hq
                · cases hq
                · split at hq
                  · exact tl _ _ _ hq
                  · cases hq
          · split at hq
            · exact tl _ _ _ hq
            · cases hq
      · exact tl _ _ _ hq
  · cases hq
    exact ⟨⟨h1, h2, h3⟩, by omega⟩
theorem tR_add {r q : qT} {n : Int} (hr : tR r) (hq : tE q) (h1 : sd r ≤ n) (h2 : sd q ≤ n) : tR (.add r q) ∧ sd (.add r q) ≤ n := by
  obtain ⟨a1, a2, a3⟩ := hr
  obtain ⟨b1, b2, b3⟩ := hq
  have e1 : th (.add r q) = 1 + max (th r) (th q) := rfl
  have e2 : sd (.add r q) = max (sd r) (sd q) := rfl
  have e3 : ln (.add r q) = ln r + ln q := rfl
  have := ln_nn r
  have hp := th_pos q
  refine ⟨⟨?_, by omega, by omega⟩, by omega⟩
  by_cases h0 : ln r = 0
  · have := a2 h0; omega
  · omega
theorem tR_clo {wy : Option qT} {r : qT} {n : Int} (hn : 0 ≤ n) (hw : match wy with | none => True | some w => tR w ∧ sd w ≤ n) (hr : tR r) (h1 : sd r ≤ n) : tR (clo wy r) ∧ sd (clo wy r) ≤ n := by
  cases wy with
  | none => exact ⟨hr, h1⟩
  | some w =>
    obtain ⟨⟨a1, a2, a3⟩, a4⟩ := hw
    obtain ⟨b1, b2, b3⟩ := hr
    have e1 : th (.sub w r) = 1 + max (th w) (th r) := rfl
    have e2 : sd (.sub w r) = max 0 (max (sd w) (sd r)) := rfl
    have e3 : ln (.sub w r) = ln w + ln r + 1 := rfl
    have := ln_nn r
    have := ln_nn w
    show tR (.sub w r) ∧ sd (.sub w r) ≤ n
    exact ⟨⟨by omega, by omega, by omega⟩, by omega⟩
theorem tE_brk {hw g : Int} {x : qT} {n : Int} (hn : 0 ≤ n) (h : tR x) (h1 : sd x ≤ n) : tE (brk hw g x) ∧ sd (brk hw g x) ≤ n := by
  obtain ⟨a1, a2, a3⟩ := h
  have l0 := ln_nn x
  have L : ∀ k : Int, tE (.mulL k x) ∧ sd (.mulL k x) ≤ n := by
    intro k
    have e1 : th (.mulL k x) = 1 + th x := rfl
    have e2 : sd (.mulL k x) = if 1 ≤ k then sd x else max 0 (sd x) := rfl
    have e3 : ln (.mulL k x) = ln x + 1 := rfl
    by_cases hk : 1 ≤ k
    · rw [if_pos hk] at e2
      exact ⟨⟨by omega, by omega, by omega⟩, by omega⟩
    · rw [if_neg hk] at e2
      exact ⟨⟨by omega, by omega, by omega⟩, by omega⟩
  unfold brk
  split
  · exact L g
  · split
    · exact L 0
    · split
      · exact L (-1)
      · have e1 : th (.neg x) = 2 + th x := rfl
        have e2 : sd (.neg x) = sd x := rfl
        have e3 : ln (.neg x) = ln x + 1 := rfl
        exact ⟨⟨by omega, by omega, by omega⟩, by omega⟩
theorem frT_step {sg : Int → Int} {c c' : sC} (hl : c.2.2.2.length ≤ 11) (h : frT c.2.2.2) (hs : sStep sg c = .ok c') : frT c'.2.2.2 ∧ c'.2.2.2.length ≤ 11 := by
  obtain ⟨at', gr, lk, fr⟩ := c
  cases fr with
  | nil => cases hs
  | cons f r =>
    obtain ⟨hw, g, wy, rw⟩ := f
    obtain ⟨h1, h2, h3, h4⟩ := h
    have hl' : r.length + 1 ≤ 11 := hl
    have un : sStep sg (at', gr, lk, (hw, g, wy, rw) :: r) = (if sg at' = 124 then .ok (at' + 1, gr, lk, (hw, g, some (clo wy rw), .num 0) :: r) else if sg at' = 40 then sBr sg at' gr lk ((hw, g, wy, rw) :: r) else if sg at' = 41 then sCl sg at' gr lk (hw, g, wy, rw) r else match sAt sg at' with
        | .error w => .error w
        | .ok (e, a) => match sQt sg lk e a with
          | .error w => .error w
          | .ok (q, a') => .ok (a', gr, lk, (hw, g, wy, .add rw q) :: r)) := rfl
    rw [un] at hs
    split at hs
    · cases hs
      have := tR_clo (n := 10 - r.length) (by omega) h3 h1 h2
      exact ⟨⟨tR_0, by show (-1 : Int) ≤ _; omega, this, h4⟩, hl'⟩
    · split at hs
      · unfold sBr at hs
        have nw : ∀ (x y : Int), ¬ ((hw, g, wy, rw) :: r : List sF).length = 11 → frT ((x, y, none, .num 0) :: (hw, g, wy, rw) :: r) ∧ ((x, y, none, .num 0) :: (hw, g, wy, rw) :: r : List sF).length ≤ 11 := by
          intro x y hne
          have hr : r.length + 1 ≠ 11 := hne
          refine ⟨⟨tR_0, ?_, trivial, h1, h2, h3, h4⟩, ?_⟩
          · show (-1 : Int) ≤ 10 - ((r.length + 1 : Nat) : Int); omega
          · show r.length + 1 + 1 ≤ 11; omega
        split at hs
        · cases hs
        · rename_i hne
          split at hs
          · split at hs
            · cases hs; exact nw 1 0 hne
            · split at hs
              · split at hs
                · cases hs
                · cases hs; exact nw _ 0 hne
              · cases hs
          · split at hs
            · cases hs
            · cases hs; exact nw 4 _ hne
      · split at hs
        · unfold sCl at hs
          split at hs
          · cases hs
          · rename_i hw2 g2 wy2 rw2 r2
            obtain ⟨k1, k2, k3, k4⟩ := h4
            split at hs
            · cases hs
            · rename_i q a hq
              cases hs
              have hl2 : ((hw2, g2, wy2, rw2) :: r2 : List sF).length = r2.length + 1 := rfl
              rw [hl2] at h2 h3 hl'
              obtain ⟨c1, c2⟩ := tR_clo (n := 10 - ((r2.length + 1 : Nat) : Int)) (by omega) h3 h1 h2
              obtain ⟨b1, b2⟩ := tE_brk (hw := hw) (g := g) (by omega) c1 c2
              obtain ⟨q1, q2⟩ := tE_qt b1 hq
              obtain ⟨a1, a2⟩ := tR_add (n := 10 - (r2.length : Int)) k1 q1 k2 (by omega)
              exact ⟨⟨a1, a2, k3, k4⟩, by show r2.length + 1 ≤ 11; omega⟩
        · split at hs
          · cases hs
          · rename_i e a he
            split at hs
            · cases hs
            · rename_i q a' hq
              cases hs
              obtain ⟨e1, e2⟩ := tE_at he
              obtain ⟨q1, q2⟩ := tE_qt e1 hq
              obtain ⟨a1, a2⟩ := tR_add (n := 10 - (r.length : Int)) h1 q1 h2 (by omega)
              exact ⟨⟨a1, a2, h3, h4⟩, hl'⟩
theorem frT_run {sg : Int → Int} : ∀ (f : Nat) (c c' : sC), c.2.2.2.length ≤ 11 → frT c.2.2.2 → sRun sg f c = .ok c' → frT c'.2.2.2 ∧ c'.2.2.2.length ≤ 11 := by
  intro f
  induction f with
  | zero => intro c c' hl h hs; cases hs; exact ⟨h, hl⟩
  | succ f ih =>
    intro c c' hl h hs
    unfold sRun at hs
    split at hs
    · cases hs; exact ⟨h, hl⟩
    · split at hs
      · cases hs
      · rename_i c2 h2
        obtain ⟨a, b⟩ := frT_step hl h h2
        exact ih c2 c' b a hs
/-- of a tree that was read: rounds within rounds, heights -/
theorem parse_deep {sg : Int → Int} {e : qT} {gr : Int} (h : sParse sg = .ok (e, gr)) : sd e ≤ 10 ∧ th e ≤ 43 * (sd e + 1) + 4 * ln e + 3 := by
  unfold sParse at h
  split at h
  · cases h
  · rename_i c hc
    have ht : frT [((1 : Int), (0 : Int), (none : Option qT), (.num 0 : qT))] := ⟨tR_0, (by decide : (-1 : Int) ≤ 10 - ((0 : Nat) : Int)), trivial, trivial⟩
    obtain ⟨a, b⟩ := frT_run 201 (0, 0, 0, [(1, 0, none, .num 0)]) c (by decide) ht hc
    unfold sTop at h
    split at h
    · rename_i x y wy rw hfr
      cases h
      rw [hfr] at a
      obtain ⟨a1, a2, a3, -⟩ := a
      obtain ⟨t1, t2⟩ := tR_clo (n := 10) (by decide) a3 a1 a2
      exact ⟨t2, t1.1⟩
    · cases h
