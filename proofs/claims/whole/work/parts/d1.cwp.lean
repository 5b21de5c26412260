/-! THE CLASS'S WALKER: ways hang on the groups not in their places, and grow with the rounds that took a byte -/
section WP
variable {n : Int} {tx : Int → Int} {te : Int} {P : qP} {H : Int → Nat → Option Bool} {Mx : Int}
theorem Ww_c : ∀ (f : Nat) (lv s p u : Int) (c c' : qCp), pl (Ww n tx te P H f lv s p u c) = pl (Ww n tx te P H f lv s p u c') := by
  intro f
  induction f with
  | zero => intros; rfl
  | succ f ih =>
    intro lv s p u c c'
    unfold Ww
    by_cases h0 : s = 0
    · simp only [if_pos h0]; split <;> rfl
    · simp only [if_neg h0]
      by_cases h1 : P 1 s = 1
      · simp only [if_pos h1]
        split
        · exact ih _ _ _ _ _ _
        · rfl
      · simp only [if_neg h1]
        by_cases h2 : P 1 s = 2
        · simp only [if_pos h2]
          split
          · exact ih _ _ _ _ _ _
          · rfl
        · simp only [if_neg h2]
          by_cases h3 : 3 ≤ P 1 s ∧ P 1 s ≤ 6
          · simp only [if_pos h3]
            split
            · exact ih _ _ _ _ _ _
            · rfl
          · simp only [if_neg h3]
            by_cases h4 : P 1 s = 15
            · simp only [if_pos h4]
              exact pl_app (ih _ _ _ _ _ _) (ih _ _ _ _ _ _)
            · simp only [if_neg h4]
              by_cases h5 : P 1 s = 16
              · simp only [if_pos h5]
                split
                · exact ih _ _ _ _ _ _
                · rfl
              · simp only [if_neg h5]
                by_cases h6 : P 1 s = 17
                · simp only [if_pos h6]
                  exact ih _ _ _ _ _ _
                · simp only [if_neg h6]
                  by_cases h7 : lv = 1
                  · simp only [if_pos h7]
                  · simp only [if_neg h7]
                    have e := ih 1 (P 4 s) p 0 c c'
                    cases hw : Ww n tx te P H f 1 (P 4 s) p 0 c with
                    | nil =>
                      cases hw' : Ww n tx te P H f 1 (P 4 s) p 0 c' with
                      | nil =>
                        dsimp only
                        split
                        · exact ih _ _ _ _ _ _
                        · rfl
                      | cons o' t' => rw [hw, hw'] at e; exact absurd e (by simp [pl])
                    | cons o t =>
                      cases hw' : Ww n tx te P H f 1 (P 4 s) p 0 c' with
                      | nil => rw [hw, hw'] at e; exact absurd e (by simp [pl])
                      | cons o' t' =>
                        rw [hw, hw'] at e
                        have eo : o.1 = o'.1 := by
                          have := congrArg List.head? e
                          simpa [pl] using this
                        dsimp only
                        split
                        · rfl
                        · split
                          · exact ih _ _ _ _ _ _
                          · rw [eo]; exact ih _ _ _ _ _ _
theorem Ww_nil {f : Nat} {lv s p u : Int} {c : qCp} (h : Ww n tx te P H f lv s p u c = []) (c' : qCp) : Ww n tx te P H f lv s p u c' = [] := by
  have e := Ww_c (n := n) (tx := tx) (te := te) (P := P) (H := H) f lv s p u c' c
  rw [h] at e
  cases hw : Ww n tx te P H f lv s p u c' with
  | nil => rfl
  | cons o t => rw [hw] at e; exact absurd e (by simp [pl])
theorem Ww_u : ∀ (f : Nat) (lv s p u u' : Int) (c : qCp), u' ≤ u → Ww n tx te P H f lv s p u c = [] → Ww n tx te P H f lv s p u' c = [] := by
  intro f
  induction f with
  | zero => intros; rfl
  | succ f ih =>
    intro lv s p u u' c hu
    unfold Ww
    by_cases h0 : s = 0
    · simp only [if_pos h0]; exact id
    · simp only [if_neg h0]
      by_cases h1 : P 1 s = 1
      · simp only [if_pos h1]; exact id
      · simp only [if_neg h1]
        by_cases h2 : P 1 s = 2
        · simp only [if_pos h2]; exact id
        · simp only [if_neg h2]
          by_cases h3 : 3 ≤ P 1 s ∧ P 1 s ≤ 6
          · simp only [if_pos h3]
            split
            · exact ih _ _ _ _ _ _ hu
            · exact id
          · simp only [if_neg h3]
            by_cases h4 : P 1 s = 15
            · simp only [if_pos h4, List.append_eq_nil_iff]
              exact fun w => ⟨ih _ _ _ _ _ _ hu w.1, ih _ _ _ _ _ _ hu w.2⟩
            · simp only [if_neg h4]
              by_cases h5 : P 1 s = 16
              · simp only [if_pos h5]
                by_cases hv : P 2 s ≤ u'
                · rw [if_pos hv, if_pos (by omega)]; exact id
                · rw [if_neg hv]; exact fun _ => rfl
              · simp only [if_neg h5]
                by_cases h6 : P 1 s = 17
                · simp only [if_pos h6]
                  exact ih _ _ _ _ _ _ hu
                · simp only [if_neg h6]
                  by_cases h7 : lv = 1
                  · simp only [if_pos h7]; exact id
                  · simp only [if_neg h7]
                    cases hw : Ww n tx te P H f 1 (P 4 s) p 0 c with
                    | nil =>
                      dsimp only
                      split
                      · exact ih _ _ _ _ _ _ hu
                      · exact id
                    | cons o t =>
                      dsimp only
                      split
                      · exact id
                      · split
                        · exact ih _ _ _ _ _ _ hu
                        · refine ih _ _ _ _ _ _ ?_
                          split <;> omega
/-- the fuel suffices from here -/
def TmX (n : Int) (P : qP) (Mx : Int) (g : Nat) (s p u : Int) : Prop := ∃ lv S r ch, Tm n P Mx g lv S s p u r ch
/-- no way from here -/
def Emp (n : Int) (tx : Int → Int) (te : Int) (P : qP) (H : Int → Nat → Option Bool) (Mx : Int) (s p u : Int) : Prop := ∀ (f : Nat) (S : List Int) (r ch : Int), Tm n P Mx f (P 7 s) S s p u r ch → ∀ c, Ww n tx te P H f (P 7 s) s p u c = []
theorem emp_of {f : Nat} {lv : Int} {S : List Int} {s p u r ch : Int} {c : qCp} (h0 : s ≠ 0) (hp : p ≤ n) (hT : Tm n P Mx f lv S s p u r ch) (hw : Ww n tx te P H f lv s p u c = []) : ∀ u', u' ≤ u → Emp n tx te P H Mx s p u' := by
  intro u' hu f' S' r' ch' hT' c'
  have elv : P 7 s = lv := by
    cases f with
    | zero => exact hT.elim
    | succ f =>
      rcases hT.2 with q | q
      · exact absurd q h0
      · exact q.1.2.2
  rw [elv] at hT' ⊢
  have e1 := Ww_mono (tx := tx) (te := te) (H := H) f (max f f') lv S s p u r ch c hp hT (Nat.le_max_left ..)
  rw [hw] at e1
  have e2 := Ww_u (max f f') lv s p u u' c' hu (Ww_nil e1 c')
  rw [Ww_mono (tx := tx) (te := te) (H := H) f' (max f f') lv S' s p u' r' ch' c' hp hT' (Nat.le_max_right ..)] at e2
  exact e2
section SUBS
variable {g : Nat} {s p u : Int}
theorem TmX_sub (h : TmX n P Mx g s p u) (h0 : s ≠ 0) : ∃ g', g = g' + 1 ∧
    (P 1 s = 1 → p < n → TmX n P Mx g' (P 3 s) (p + 1) (P 5 s)) ∧ (P 1 s = 2 → p < n → TmX n P Mx g' (P 3 s) (p + 1) (P 5 s)) ∧
    (3 ≤ P 1 s → P 1 s ≤ 6 → TmX n P Mx g' (P 3 s) p u) ∧ (P 1 s = 15 → TmX n P Mx g' (P 3 s) p u ∧ TmX n P Mx g' (P 4 s) p u) ∧
    (P 1 s = 16 → P 2 s ≤ u → TmX n P Mx g' (P 3 s) p (P 2 s - 1)) ∧ (P 1 s = 17 → TmX n P Mx g' (P 3 s) p u) ∧
    (P 1 s = 7 ∨ P 1 s = 8 ∨ P 1 s = 14 → TmX n P Mx g' (P 4 s) p 0 ∧ ∀ q, p ≤ q → q ≤ n → (q = p ∨ P 1 s = 14) → TmX n P Mx g' (P 3 s) q (if q = p then u else P 5 s)) := by
  obtain ⟨lv, S, r, ch, h⟩ := h
  cases g with
  | zero => exact h.elim
  | succ g =>
    refine ⟨g, rfl, ?_⟩
    rcases h.2 with q | ⟨-, q⟩
    · exact absurd q h0
    · rcases q with ⟨a, b, b', c⟩ | ⟨a, b, b', c⟩ | ⟨a, c⟩ | ⟨a, b, c1, c2, d, e1, e2⟩ | ⟨a, b, c⟩ | ⟨a, b, c, d, e⟩ | ⟨a, b, b', c, S', c1, c2, d, e1, e2⟩
      · refine ⟨fun _ z => ⟨_, _, _, _, c z⟩, fun z => by omega, fun z => by omega, fun z => by omega, fun z => by omega, fun z => by omega, fun z => by omega⟩
      · refine ⟨fun z => by omega, fun _ z => ⟨_, _, _, _, c z⟩, fun z => by omega, fun z => by omega, fun z => by omega, fun z => by omega, fun z => by omega⟩
      · refine ⟨fun z => by omega, fun z => by omega, fun _ _ => ⟨_, _, _, _, c⟩, fun z => by omega, fun z => by omega, fun z => by omega, fun z => by omega⟩
      · refine ⟨fun z => by omega, fun z => by omega, fun z => by omega, fun _ => ⟨⟨_, _, _, _, e1⟩, ⟨_, _, _, _, e2⟩⟩, fun z => by omega, fun z => by omega, fun z => by omega⟩
      · refine ⟨fun z => by omega, fun z => by omega, fun z => by omega, fun z => by omega, fun _ z => ⟨_, _, _, _, c z⟩, fun z => by omega, fun z => by omega⟩
      · refine ⟨fun z => by omega, fun z => by omega, fun z => by omega, fun z => by omega, fun z => by omega, fun _ => ⟨_, _, _, _, e⟩, fun z => by omega⟩
      · refine ⟨fun z => by omega, fun z => by omega, fun z => by omega, fun z => by omega, fun z => by omega, fun z => by omega, fun _ => ⟨⟨_, _, _, _, e1⟩, fun q q0 q1 q2 => ⟨_, _, _, _, e2 q q0 q1 q2⟩⟩⟩
end SUBS
theorem TmX_mono {g g' : Nat} {s p u : Int} (h : TmX n P Mx g s p u) (hg : g ≤ g') : TmX n P Mx g' s p u := by
  obtain ⟨lv, S, r, ch, h⟩ := h
  exact ⟨lv, S, r, ch, Tm_mono g g' _ _ _ _ _ _ _ _ _ h hg (Int.le_refl _) (Int.le_refl _)⟩
/-- the least fuel -/
theorem TmX_min {g : Nat} {s p u : Int} (h : TmX n P Mx g s p u) : ∃ g0, TmX n P Mx (g0 + 1) s p u ∧ ¬ TmX n P Mx g0 s p u := by
  induction g with
  | zero => obtain ⟨lv, S, r, ch, h⟩ := h; exact h.elim
  | succ g ih =>
    by_cases q : TmX n P Mx g s p u
    · exact ih q
    · exact ⟨g, h, q⟩
end WP
/-! records -/
def slk (k : Int) : Prop := k = 15 ∨ k = 7 ∨ k = 8 ∨ k = 14
def ky (P : qP) (n s p : Int) : Int := P 6 s * (n + 1) + p
/-- which records may change on a walk from (s, p, u) -/
def RC (n : Int) (P : qP) (Mx : Int) (s p u : Int) (B B' : qB) : Prop := ∀ κ, 0 ≤ κ → rv B' κ ≠ rv B κ → ∃ s' p' u', slk (P 1 s') ∧ (1 ≤ s' ∧ s' < P 0 7) ∧ (0 ≤ p' ∧ p' ≤ n) ∧ κ = ky P n s' p' ∧ (0 ≤ u' ∧ u' ≤ 11) ∧ rv B κ ≤ u' ∧ rv B' κ = u' + 1 ∧ (p < p' ∨ (p' = p ∧ u' ≤ u)) ∧ ∀ g, TmX n P Mx g s p u → TmX n P Mx g s' p' u'
section RCs
variable {n : Int} {P : qP} {Mx : Int} {s p u : Int} {B B1 B2 : qB}
theorem RC.refl : RC n P Mx s p u B B := fun κ _ h => absurd rfl h
theorem RC.same (h : ∀ κ, 0 ≤ κ → rv B1 κ = rv B κ) : RC n P Mx s p u B B1 := fun κ k0 q => absurd (h κ k0) q
theorem RC.le (h : RC n P Mx s p u B B1) {κ : Int} (k0 : 0 ≤ κ) : rv B κ ≤ rv B1 κ := by
  by_cases e : rv B1 κ = rv B κ
  · omega
  · obtain ⟨s', p', u', -, -, -, -, -, q1, q2, -⟩ := h κ k0 e
    omega
theorem RC.tr (h : RC n P Mx s p u B B1) (g : RC n P Mx s p u B1 B2) : RC n P Mx s p u B B2 := by
  intro κ k0 e
  by_cases e2 : rv B2 κ = rv B1 κ
  · obtain ⟨s', p', u', q1, q2, q3, q4, q5, q6, q7, q8⟩ := h κ k0 (by rw [← e2]; exact e)
    exact ⟨s', p', u', q1, q2, q3, q4, q5, q6, by rw [e2]; exact q7, q8⟩
  · obtain ⟨s', p', u', q1, q2, q3, q4, q5, q6, q7, q8⟩ := g κ k0 e2
    exact ⟨s', p', u', q1, q2, q3, q4, q5, Int.le_trans (h.le k0) q6, q7, q8⟩
/-- from a later step -/
theorem RC.up {s1 p1 u1 : Int} (h : RC n P Mx s1 p1 u1 B B1) (hp : p < p1 ∨ (p1 = p ∧ u1 ≤ u)) (hg : ∀ g, TmX n P Mx g s p u → TmX n P Mx g s1 p1 u1) : RC n P Mx s p u B B1 := by
  intro κ k0 e
  obtain ⟨s', p', u', q1, q2, q3, q4, q5, q6, q7, q8, q9⟩ := h κ k0 e
  exact ⟨s', p', u', q1, q2, q3, q4, q5, q6, q7, by omega, fun g z => q9 g (hg g z)⟩
/-- sum of the records -/
def smr (B : qB) : Nat → Int
  | 0 => 0
  | k + 1 => smr B k + rv B (k : Int)
theorem smr_le (h : ∀ κ, 0 ≤ κ → rv B κ ≤ rv B1 κ) : ∀ k : Nat, smr B k ≤ smr B1 k := by
  intro k
  induction k with
  | zero => exact Int.le_refl _
  | succ k ih => have := h (k : Int) (by omega); unfold smr; omega
theorem smr_lt {κ : Int} (h : ∀ κ, 0 ≤ κ → rv B κ ≤ rv B1 κ) (k0 : 0 ≤ κ) (hk : rv B κ < rv B1 κ) : ∀ k : Nat, κ < k → smr B k + 1 ≤ smr B1 k := by
  intro k
  induction k with
  | zero => intro q; omega
  | succ k ih =>
    intro q
    unfold smr
    by_cases e : κ = (k : Int)
    · subst e
      have := smr_le h k
      omega
    · have := ih (by omega)
      have := h (k : Int) (by omega)
      omega
theorem smr_12 (h : ∀ κ, 0 ≤ κ → rv B κ ≤ 12) : ∀ k : Nat, smr B k ≤ 12 * k := by
  intro k
  induction k with
  | zero => exact Int.le_refl _
  | succ k ih => have := h (k : Int) (by omega); unfold smr; omega
end RCs
