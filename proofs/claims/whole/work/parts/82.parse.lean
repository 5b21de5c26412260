/-! WHAT IS READ: questions and kept rounds do not stand within one another -/
theorem nst_aT : ∀ e : qT, aT e = false → nst e := by
  intro e
  induction e with
  | num k => intro _; trivial
  | var s => intro _; trivial
  | add a b ha hb => intro h; have h' := Bool.or_eq_false_iff.mp h; exact ⟨ha h'.1, hb h'.2⟩
  | sub a b ha hb => intro h; have h' := Bool.or_eq_false_iff.mp h; exact ⟨ha h'.1, hb h'.2⟩
  | neg a ha => intro h; exact ha h
  | mulL k a ha =>
    intro h
    have h' := Bool.or_eq_false_iff.mp h
    rw [nst]
    split
    · exact ha h'.1
    · exact h'.1
  | mulR a k ha =>
    intro h
    have h' := Bool.or_eq_false_iff.mp h
    rw [nst]
    split
    · exact h'.1
    · exact ha h'.1
theorem at_nst {sg : Int → Int} {e : qT} {a b : Int} (h : sAt sg a = .ok (e, b)) : aT e = false := by
  unfold sAt at h
  split at h
  · cases h
  · split at h
    · cases h; rfl
    · split at h
      · cases h; rfl
      · split at h
        · split at h
          · cases h; rfl
          · split at h
            · cases h; rfl
            · split at h
              · cases h
              · cases h; rfl
        · split at h
          · cases h; rfl
          · split at h
            · split at h
              · cases h
              · cases h; rfl
            · cases h; rfl
theorem tl_nst {sg : Int → Int} {lk : Int} {e q : qT} {l h a b : Int} (hn : nst e) (hq : sTl sg lk e l h a = .ok (q, b)) (l0 : 0 ≤ l) (l1 : l ≤ 20) (h0 : -1 ≤ h) (h1 : h ≤ 20) : nst q ∧ (0 < lk → aT q = aT e) := by
  have eg : ∀ g, rg (rc l h g) = g := fun g => rc_g l0 (by omega) h0 (by omega)
  have n : ∀ g, ¬ g = 2 → nst (.mulR e (rc l h g)) ∧ (0 < lk → aT (.mulR e (rc l h g)) = aT e) := by
    intro g hg
    refine ⟨?_, fun _ => ?_⟩
    · rw [nst, eg, if_neg hg]; exact hn
    · show (aT e || decide (rg (rc l h g) = 2)) = aT e
      rw [eg, decide_eq_false hg, Bool.or_false]
  unfold sTl at hq
  split at hq
  · cases hq; exact n 1 (by decide)
  · split at hq
    · split at hq
      · cases hq
      · rename_i hc
        cases hq
        refine ⟨?_, fun w => absurd (Or.inl w) hc⟩
        rw [nst, eg, if_pos rfl]
        exact Bool.eq_false_iff.mpr (fun w => hc (Or.inr w))
    · cases hq; exact n 0 (by decide)
theorem qt_nst {sg : Int → Int} {lk : Int} {e q : qT} {a b : Int} (hn : nst e) (hq : sQt sg lk e a = .ok (q, b)) : nst q ∧ (0 < lk → aT q = aT e) := by
  unfold sQt at hq
  split at hq
  · split at hq
    · cases hq
    · split at hq
      · split at hq
        · cases hq
        · rename_i l a1 hn1
          obtain ⟨n1, n2, n3⟩ := sNm_bd hn1
          split at hq
          · split at hq
            · exact tl_nst hn hq n2 n3 (by decide) (by decide)
            · split at hq
              · cases hq
              · rename_i h' a2 hn2
                obtain ⟨k1, k2, k3⟩ := sNm_bd hn2
                split at hq
                · cases hq
                · split at hq
                  · exact tl_nst hn hq n2 n3 (by omega) k3
                  · cases hq
          · split at hq
            · exact tl_nst hn hq n2 n3 (by omega) n3
            · cases hq
      · refine tl_nst hn hq ?_ ?_ ?_ ?_ <;> split <;> omega
  · cases hq
    exact ⟨hn, fun _ => rfl⟩
def wN (wy : Option qT) : Prop := match wy with
  | none => True
  | some w => nst w
def wA (wy : Option qT) : Prop := match wy with
  | none => True
  | some w => aT w = false
def frN : List sF → Prop
  | [] => True
  | (hw, g, wy, rw) :: r => nst rw ∧ wN wy ∧ (0 < lkF ((hw, g, wy, rw) :: r) → aT rw = false ∧ wA wy) ∧ (hw = 4 → 1 ≤ g) ∧ (hw = 5 ∨ hw = 6 → lkF r = 0) ∧ frN r
theorem clo_nst {wy : Option qT} {rw : qT} (h1 : nst rw) (h2 : wN wy) : nst (clo wy rw) := by
  cases wy with
  | none => exact h1
  | some w => exact ⟨h2, h1⟩
theorem clo_aT {wy : Option qT} {rw : qT} (h1 : aT rw = false) (h2 : wA wy) : aT (clo wy rw) = false := by
  cases wy with
  | none => exact h1
  | some w => exact Bool.or_eq_false_iff.mpr ⟨h2, h1⟩
theorem lkF_nn : ∀ fr : List sF, 0 ≤ lkF fr := fun fr => (lkF_bd fr).1
theorem frN_step {sg : Int → Int} {c c' : sC} (hk : c.2.2.1 = lkF c.2.2.2) (hg : 0 ≤ c.2.1) (h : frN c.2.2.2) (hs : sStep sg c = .ok c') : c'.2.2.1 = lkF c'.2.2.2 ∧ 0 ≤ c'.2.1 ∧ frN c'.2.2.2 := by
  obtain ⟨at', gr, lk, fr⟩ := c
  have hk' : lk = lkF fr := hk
  have hg' : 0 ≤ gr := hg
  cases fr with
  | nil => cases hs
  | cons f r =>
    obtain ⟨hw, g, wy, rw⟩ := f
    have hfr : frN ((hw, g, wy, rw) :: r) := h
    obtain ⟨h1, h2, h3, h4, h5, h6⟩ := h
    have un : sStep sg (at', gr, lk, (hw, g, wy, rw) :: r) = (if sg at' = 124 then .ok (at' + 1, gr, lk, (hw, g, some (clo wy rw), .num 0) :: r) else if sg at' = 40 then sBr sg at' gr lk ((hw, g, wy, rw) :: r) else if sg at' = 41 then sCl sg at' gr lk (hw, g, wy, rw) r else match sAt sg at' with
        | .error w => .error w
        | .ok (e, a) => match sQt sg lk e a with
          | .error w => .error w
          | .ok (q, a') => .ok (a', gr, lk, (hw, g, wy, .add rw q) :: r)) := rfl
    rw [un] at hs
    have lk0 := lkF_nn r
    have lkc : lkF ((hw, g, wy, rw) :: r) = (if hw = 5 ∨ hw = 6 then 1 else 0) + lkF r := rfl
    split at hs
    · cases hs
      exact ⟨hk', hg', trivial, clo_nst h1 h2, fun w => ⟨rfl, clo_aT (h3 w).1 (h3 w).2⟩, h4, h5, h6⟩
    · split at hs
      · unfold sBr at hs
        split at hs
        · cases hs
        · split at hs
          · split at hs
            · cases hs
              refine ⟨?_, hg', trivial, trivial, fun _ => ⟨rfl, trivial⟩, fun w => absurd w (by decide), fun w => absurd w (by decide), hfr⟩
              show lk = (if (1 : Int) = 5 ∨ (1 : Int) = 6 then 1 else 0) + lkF ((hw, g, wy, rw) :: r)
              rw [if_neg (by decide)]
              omega
            · split at hs
              · split at hs
                · cases hs
                · rename_i hlk
                  cases hs
                  have hl0 : lkF ((hw, g, wy, rw) :: r) = 0 := by
                    have := lkF_nn ((hw, g, wy, rw) :: r)
                    omega
                  refine ⟨?_, hg', trivial, trivial, fun _ => ⟨rfl, trivial⟩, fun w => ?_, fun w => hl0, hfr⟩
                  · show lk + 1 = (if (if sg (at' + 2) = 61 then (5 : Int) else 6) = 5 ∨ (if sg (at' + 2) = 61 then (5 : Int) else 6) = 6 then 1 else 0) + lkF ((hw, g, wy, rw) :: r)
                    rw [if_pos (by split <;> omega)]
                    omega
                  · exfalso
                    split at w <;> omega
              · cases hs
          · split at hs
            · cases hs
            · cases hs
              refine ⟨?_, by show 0 ≤ gr + 1; omega, trivial, trivial, fun _ => ⟨rfl, trivial⟩, fun _ => by omega, fun w => absurd w (by decide), hfr⟩
              show lk = (if (4 : Int) = 5 ∨ (4 : Int) = 6 then 1 else 0) + lkF ((hw, g, wy, rw) :: r)
              rw [if_neg (by decide)]
              omega
      · split at hs
        · unfold sCl at hs
          split at hs
          · cases hs
          · rename_i hw2 g2 wy2 rw2 r2
            obtain ⟨k1, k2, k3, k4, k5, k6⟩ := h6
            split at hs
            · cases hs
            · rename_i q a hq
              cases hs
              have cn := clo_nst h1 h2
              have hk2 : (if hw = 5 ∨ hw = 6 then lk - 1 else lk) = lkF ((hw2, g2, wy2, rw2) :: r2) := by
                by_cases hh : hw = 5 ∨ hw = 6
                · rw [if_pos hh] at lkc ⊢; omega
                · rw [if_neg hh] at lkc ⊢; omega
              have bn : nst (brk hw g (clo wy rw)) ∧ (0 < lkF ((hw2, g2, wy2, rw2) :: r2) → aT (brk hw g (clo wy rw)) = false) := by
                unfold brk
                by_cases e4 : hw = 4
                · rw [if_pos e4]
                  have hg1 := h4 e4
                  refine ⟨by rw [nst, if_pos hg1]; exact cn, fun w => ?_⟩
                  rw [if_neg (by omega)] at lkc
                  have := h3 (by omega)
                  show (aT (clo wy rw) || decide (g ≤ 0)) = false
                  rw [clo_aT this.1 this.2, decide_eq_false (by omega)]
                  rfl
                · rw [if_neg e4]
                  by_cases e5 : hw = 5
                  · rw [if_pos e5]
                    rw [if_pos (Or.inl e5)] at lkc
                    have := h3 (by omega)
                    refine ⟨by rw [nst, if_neg (by decide)]; exact clo_aT this.1 this.2, fun w => ?_⟩
                    have := h5 (Or.inl e5)
                    omega
                  · rw [if_neg e5]
                    by_cases e6 : hw = 6
                    · rw [if_pos e6]
                      rw [if_pos (Or.inr e6)] at lkc
                      have := h3 (by omega)
                      refine ⟨by rw [nst, if_neg (by decide)]; exact clo_aT this.1 this.2, fun w => ?_⟩
                      have := h5 (Or.inr e6)
                      omega
                    · rw [if_neg e6]
                      refine ⟨cn, fun w => ?_⟩
                      rw [if_neg (by omega)] at lkc
                      have := h3 (by omega)
                      exact clo_aT this.1 this.2
              have qn := qt_nst bn.1 hq
              rw [hk2] at qn
              refine ⟨hk2, hg', ⟨k1, qn.1⟩, k2, fun w => ⟨Bool.or_eq_false_iff.mpr ⟨(k3 w).1, (qn.2 w).trans (bn.2 w)⟩, (k3 w).2⟩, k4, k5, k6⟩
        · split at hs
          · cases hs
          · rename_i e a he
            split at hs
            · cases hs
            · rename_i q a' hq
              cases hs
              have ea := at_nst he
              have qn := qt_nst (nst_aT e ea) hq
              exact ⟨hk', hg', ⟨h1, qn.1⟩, h2, fun w => by
                have w' : 0 < lkF ((hw, g, wy, rw) :: r) := w
                exact ⟨Bool.or_eq_false_iff.mpr ⟨(h3 w').1, (qn.2 (by omega)).trans ea⟩, (h3 w').2⟩, h4, h5, h6⟩
theorem frN_run {sg : Int → Int} : ∀ (f : Nat) (c c' : sC), c.2.2.1 = lkF c.2.2.2 → 0 ≤ c.2.1 → frN c.2.2.2 → sRun sg f c = .ok c' → frN c'.2.2.2 := by
  intro f
  induction f with
  | zero => intro c c' hl hg h hs; cases hs; exact h
  | succ f ih =>
    intro c c' hl hg h hs
    unfold sRun at hs
    split at hs
    · cases hs; exact h
    · split at hs
      · cases hs
      · rename_i c2 h2
        obtain ⟨a, b, cc⟩ := frN_step hl hg h h2
        exact ih c2 c' a b cc hs
theorem parse_nst {sg : Int → Int} {e : qT} {gr : Int} (h : sParse sg = .ok (e, gr)) : nst e := by
  unfold sParse at h
  split at h
  · cases h
  · rename_i c hc
    have a := frN_run 201 (0, 0, 0, [(1, 0, none, .num 0)]) c rfl (Int.le_refl _) ⟨trivial, trivial, fun _ => ⟨rfl, trivial⟩, fun w => absurd w (by decide), fun w => absurd w (by decide), trivial⟩ hc
    unfold sTop at h
    split at h
    · rename_i x y wy rw hfr
      cases h
      rw [hfr] at a
      exact clo_nst a.1 a.2.1
    · cases h
