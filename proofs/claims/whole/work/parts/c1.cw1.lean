/-! THE CLASS'S WALKER: the ways that a program has -/
section WD
variable (n : Int) (tx : Int → Int) (te : Int) (P : qP) (H : Int → Nat → Option Bool)
/-- the ways from a step on, f deep at most; lv 1: within a lookahead or kept rounds -/
def Ww : Nat → Int → Int → Int → Int → qCp → qWs
  | 0, _, _, _, _, _ => []
  | f + 1, lv, s, p, u, c => if s = 0 then (if lv = 1 ∨ te = 0 ∨ p = n then [(p, c)] else [])
    else if P 1 s = 1 then (if p < n ∧ tx p = P 2 s then Ww f lv (P 3 s) (p + 1) (P 5 s) c else [])
    else if P 1 s = 2 then (if p < n ∧ H (P 2 s) (tx p).toNat = some true then Ww f lv (P 3 s) (p + 1) (P 5 s) c else [])
    else if 3 ≤ P 1 s ∧ P 1 s ≤ 6 then (if good n tx (P 1 s - 2) p = true then Ww f lv (P 3 s) p u c else [])
    else if P 1 s = 15 then Ww f lv (P 3 s) p u c ++ Ww f lv (P 4 s) p u c
    else if P 1 s = 16 then (if P 2 s ≤ u then Ww f lv (P 3 s) p (P 2 s - 1) c else [])
    else if P 1 s = 17 then Ww f lv (P 3 s) p u (upc c (P 2 s) p)
    else if lv = 1 then []
    else match Ww f 1 (P 4 s) p 0 c with
      | [] => if P 1 s = 8 then Ww f lv (P 3 s) p u c else []
      | o :: _ => if P 1 s = 8 then [] else if P 1 s = 7 then Ww f lv (P 3 s) p u o.2 else Ww f lv (P 3 s) o.1 (if o.1 = p then u else P 5 s) o.2
variable (Mx : Int)
/-- f is enough; r: room on the pile, ch: steps up to the next one with a slot; S: marks that may be set -/
def Tm : Nat → Int → List Int → Int → Int → Int → Int → Int → Prop
  | 0, _, _, _, _, _, _, _ => False
  | f + 1, lv, S, s, p, u, r, ch => (1 ≤ ch ∧ 0 ≤ r ∧ 0 ≤ u ∧ u ≤ 11) ∧ (s = 0 ∨ ((1 ≤ s ∧ s < P 0 7 ∧ P 7 s = lv) ∧
    ((P 1 s = 1 ∧ (0 ≤ P 5 s ∧ P 5 s ≤ 11) ∧ (0 ≤ P 2 s ∧ P 2 s ≤ 255) ∧ (p < n → Tm f lv S (P 3 s) (p + 1) (P 5 s) r (ch - 1))) ∨
     (P 1 s = 2 ∧ (0 ≤ P 5 s ∧ P 5 s ≤ 11) ∧ (0 ≤ P 2 s ∧ P 2 s < 200) ∧ (p < n → Tm f lv S (P 3 s) (p + 1) (P 5 s) r (ch - 1))) ∨
     ((3 ≤ P 1 s ∧ P 1 s ≤ 6) ∧ Tm f lv S (P 3 s) p u r (ch - 1)) ∨
     (P 1 s = 15 ∧ 1 ≤ r ∧ ∃ c1 c2, c1 + c2 ≤ Mx ∧ Tm f lv S (P 3 s) p u (r - 1) c1 ∧ Tm f lv S (P 4 s) p u (r - 1) c2) ∨
     (P 1 s = 16 ∧ (1 ≤ P 2 s ∧ P 2 s ≤ 11) ∧ (P 2 s ≤ u → Tm f lv S (P 3 s) p (P 2 s - 1) r (ch - 1))) ∨
     (P 1 s = 17 ∧ 1 ≤ r ∧ (0 ≤ P 2 s ∧ P 2 s < 20) ∧ (lv = 1 → P 2 s ∈ S) ∧ Tm f lv S (P 3 s) p u (r - 1) (ch - 1)) ∨
     ((P 1 s = 7 ∨ P 1 s = 8 ∨ P 1 s = 14) ∧ lv = 0 ∧ (0 ≤ P 5 s ∧ P 5 s ≤ 11) ∧ 1 ≤ r ∧ ∃ S' c1 c2, c1 + c2 ≤ Mx ∧ Tm f 1 S' (P 4 s) p 0 (r - 1) c1 ∧ ∀ q, p ≤ q → q ≤ n → (q = p ∨ P 1 s = 14) → Tm f 0 S (P 3 s) q (if q = p then u else P 5 s) (r - 1 - S'.length) c2))))
end WD
section WD2
variable {n : Int} {tx : Int → Int} {te : Int} {P : qP} {H : Int → Nat → Option Bool} {Mx : Int}
theorem Tm_mono : ∀ (f f' : Nat) (lv : Int) (S : List Int) (s p u r ch r' ch' : Int), Tm n P Mx f lv S s p u r ch → f ≤ f' → r ≤ r' → ch ≤ ch' → Tm n P Mx f' lv S s p u r' ch' := by
  intro f
  induction f with
  | zero => intro f' lv S s p u r ch r' ch' h; exact h.elim
  | succ f ih =>
    intro f' lv S s p u r ch r' ch' h hf hr hc
    obtain ⟨f', rfl⟩ : ∃ g, f' = g + 1 := ⟨f' - 1, by omega⟩
    obtain ⟨h1, h2⟩ := h
    refine ⟨by omega, ?_⟩
    rcases h2 with h2 | ⟨h3, h2⟩
    · exact Or.inl h2
    · refine Or.inr ⟨h3, ?_⟩
      rcases h2 with ⟨a, b, b', c⟩ | ⟨a, b, b', c⟩ | ⟨a, c⟩ | ⟨a, b, c1, c2, d, e1, e2⟩ | ⟨a, b, c⟩ | ⟨a, b, c, d, e⟩ | ⟨a, b, b', c, S', c1, c2, d, e1, e2⟩
      · exact Or.inl ⟨a, b, b', fun w => ih f' _ _ _ _ _ _ _ _ _ (c w) (by omega) hr (by omega)⟩
      · exact Or.inr (Or.inl ⟨a, b, b', fun w => ih f' _ _ _ _ _ _ _ _ _ (c w) (by omega) hr (by omega)⟩)
      · exact Or.inr (Or.inr (Or.inl ⟨a, ih f' _ _ _ _ _ _ _ _ _ c (by omega) hr (by omega)⟩))
      · exact Or.inr (Or.inr (Or.inr (Or.inl ⟨a, by omega, c1, c2, d, ih f' _ _ _ _ _ _ _ _ _ e1 (by omega) (by omega) (Int.le_refl _), ih f' _ _ _ _ _ _ _ _ _ e2 (by omega) (by omega) (Int.le_refl _)⟩)))
      · exact Or.inr (Or.inr (Or.inr (Or.inr (Or.inl ⟨a, b, fun w => ih f' _ _ _ _ _ _ _ _ _ (c w) (by omega) hr (by omega)⟩))))
      · exact Or.inr (Or.inr (Or.inr (Or.inr (Or.inr (Or.inl ⟨a, by omega, c, d, ih f' _ _ _ _ _ _ _ _ _ e (by omega) (by omega) (by omega)⟩)))))
      · exact Or.inr (Or.inr (Or.inr (Or.inr (Or.inr (Or.inr ⟨a, b, b', by omega, S', c1, c2, d, ih f' _ _ _ _ _ _ _ _ _ e1 (by omega) (by omega) (Int.le_refl _), fun q q0 q1 q2 => ih f' _ _ _ _ _ _ _ _ _ (e2 q q0 q1 q2) (by omega) (by omega) (Int.le_refl _)⟩)))))
/-- ways lie between -/
theorem Ww_rg : ∀ (f : Nat) (lv s p u : Int) (c : qCp), p ≤ n → ∀ o ∈ Ww n tx te P H f lv s p u c, p ≤ o.1 ∧ o.1 ≤ n := by
  intro f
  induction f with
  | zero => intro lv s p u c _ o ho; exact absurd ho (by simp [Ww])
  | succ f ih =>
    intro lv s p u c hp o ho
    unfold Ww at ho
    split at ho
    · split at ho
      · rw [List.mem_singleton] at ho; subst ho; exact ⟨Int.le_refl _, hp⟩
      · exact absurd ho (by simp)
    · split at ho
      · split at ho
        · have := ih _ _ _ _ _ (by omega) o ho; omega
        · exact absurd ho (by simp)
      · split at ho
        · split at ho
          · have := ih _ _ _ _ _ (by omega) o ho; omega
          · exact absurd ho (by simp)
        · split at ho
          · split at ho
            · exact ih _ _ _ _ _ hp o ho
            · exact absurd ho (by simp)
          · split at ho
            · rcases List.mem_append.mp ho with w | w
              · exact ih _ _ _ _ _ hp o w
              · exact ih _ _ _ _ _ hp o w
            · split at ho
              · split at ho
                · exact ih _ _ _ _ _ hp o ho
                · exact absurd ho (by simp)
              · split at ho
                · exact ih _ _ _ _ _ hp o ho
                · split at ho
                  · exact absurd ho (by simp)
                  · split at ho
                    · split at ho
                      · exact ih _ _ _ _ _ hp o ho
                      · exact absurd ho (by simp)
                    · rename_i o' t hw
                      have hr := ih 1 (P 4 s) p 0 c hp o' (by rw [hw]; exact List.mem_cons_self ..)
                      split at ho
                      · exact absurd ho (by simp)
                      · split at ho
                        · exact ih _ _ _ _ _ hp o ho
                        · have := ih _ _ _ _ _ hr.2 o ho; omega
section UNF
variable {f : Nat} {lv s p u : Int} {c : qCp}
theorem Ww_b (h0 : s ≠ 0) (hk : P 1 s = 1) : Ww n tx te P H (f + 1) lv s p u c = if p < n ∧ tx p = P 2 s then Ww n tx te P H f lv (P 3 s) (p + 1) (P 5 s) c else [] := by
  show (if s = 0 then _ else _) = _
  rw [if_neg h0, if_pos hk]
theorem Ww_s (h0 : s ≠ 0) (hk : P 1 s = 2) : Ww n tx te P H (f + 1) lv s p u c = if p < n ∧ H (P 2 s) (tx p).toNat = some true then Ww n tx te P H f lv (P 3 s) (p + 1) (P 5 s) c else [] := by
  show (if s = 0 then _ else _) = _
  rw [if_neg h0, if_neg (by omega), if_pos hk]
theorem Ww_g (h0 : s ≠ 0) (hk : 3 ≤ P 1 s ∧ P 1 s ≤ 6) : Ww n tx te P H (f + 1) lv s p u c = if good n tx (P 1 s - 2) p = true then Ww n tx te P H f lv (P 3 s) p u c else [] := by
  show (if s = 0 then _ else _) = _
  rw [if_neg h0, if_neg (by omega), if_neg (by omega), if_pos hk]
theorem Ww_sp (h0 : s ≠ 0) (hk : P 1 s = 15) : Ww n tx te P H (f + 1) lv s p u c = Ww n tx te P H f lv (P 3 s) p u c ++ Ww n tx te P H f lv (P 4 s) p u c := by
  show (if s = 0 then _ else _) = _
  rw [if_neg h0, if_neg (by omega), if_neg (by omega), if_neg (by omega), if_pos hk]
theorem Ww_rd (h0 : s ≠ 0) (hk : P 1 s = 16) : Ww n tx te P H (f + 1) lv s p u c = if P 2 s ≤ u then Ww n tx te P H f lv (P 3 s) p (P 2 s - 1) c else [] := by
  show (if s = 0 then _ else _) = _
  rw [if_neg h0, if_neg (by omega), if_neg (by omega), if_neg (by omega), if_neg (by omega), if_pos hk]
theorem Ww_mk (h0 : s ≠ 0) (hk : P 1 s = 17) : Ww n tx te P H (f + 1) lv s p u c = Ww n tx te P H f lv (P 3 s) p u (upc c (P 2 s) p) := by
  show (if s = 0 then _ else _) = _
  rw [if_neg h0, if_neg (by omega), if_neg (by omega), if_neg (by omega), if_neg (by omega), if_neg (by omega), if_pos hk]
theorem Ww_ap (h0 : s ≠ 0) (hk : P 1 s = 7 ∨ P 1 s = 8 ∨ P 1 s = 14) : Ww n tx te P H (f + 1) 0 s p u c = match Ww n tx te P H f 1 (P 4 s) p 0 c with
      | [] => if P 1 s = 8 then Ww n tx te P H f 0 (P 3 s) p u c else []
      | o :: _ => if P 1 s = 8 then [] else if P 1 s = 7 then Ww n tx te P H f 0 (P 3 s) p u o.2 else Ww n tx te P H f 0 (P 3 s) o.1 (if o.1 = p then u else P 5 s) o.2 := by
  show (if s = 0 then _ else _) = _
  rw [if_neg h0, if_neg (by omega), if_neg (by omega), if_neg (by omega), if_neg (by omega), if_neg (by omega), if_neg (by omega), if_neg (by decide)]
end UNF
/-- more than enough changes nothing -/
theorem Ww_mono : ∀ (f f' : Nat) (lv : Int) (S : List Int) (s p u r ch : Int) (c : qCp), p ≤ n → Tm n P Mx f lv S s p u r ch → f ≤ f' → Ww n tx te P H f' lv s p u c = Ww n tx te P H f lv s p u c := by
  intro f
  induction f with
  | zero => intro f' lv S s p u r ch c _ h; exact h.elim
  | succ f ih =>
    intro f' lv S s p u r ch c hp h hf
    obtain ⟨f', rfl⟩ : ∃ g, f' = g + 1 := ⟨f' - 1, by omega⟩
    obtain ⟨-, h2⟩ := h
    have hf' : f ≤ f' := by omega
    by_cases h0 : s = 0
    · subst h0
      unfold Ww
      rw [if_pos rfl, if_pos rfl]
    · rcases h2 with h2 | ⟨-, h2⟩
      · exact absurd h2 h0
      · rcases h2 with ⟨a, -, -, c'⟩ | ⟨a, -, -, c'⟩ | ⟨a, c'⟩ | ⟨a, -, c1, c2, -, e1, e2⟩ | ⟨a, -, c'⟩ | ⟨a, -, -, -, e⟩ | ⟨a, b, -, -, S', c1, c2, -, e1, e2⟩
        · rw [Ww_b h0 a, Ww_b h0 a]
          by_cases hc : p < n ∧ tx p = P 2 s
          · rw [if_pos hc, if_pos hc]; exact ih _ _ _ _ _ _ _ _ _ (by omega) (c' hc.1) hf'
          · rw [if_neg hc, if_neg hc]
        · rw [Ww_s h0 a, Ww_s h0 a]
          by_cases hc : p < n ∧ H (P 2 s) (tx p).toNat = some true
          · rw [if_pos hc, if_pos hc]; exact ih _ _ _ _ _ _ _ _ _ (by omega) (c' hc.1) hf'
          · rw [if_neg hc, if_neg hc]
        · rw [Ww_g h0 a, Ww_g h0 a]
          by_cases hc : good n tx (P 1 s - 2) p = true
          · rw [if_pos hc, if_pos hc]; exact ih _ _ _ _ _ _ _ _ _ hp c' hf'
          · rw [if_neg hc, if_neg hc]
        · rw [Ww_sp h0 a, Ww_sp h0 a, ih _ _ _ _ _ _ _ _ _ hp e1 hf', ih _ _ _ _ _ _ _ _ _ hp e2 hf']
        · rw [Ww_rd h0 a, Ww_rd h0 a]
          by_cases hc : P 2 s ≤ u
          · rw [if_pos hc, if_pos hc]; exact ih _ _ _ _ _ _ _ _ _ hp (c' hc) hf'
          · rw [if_neg hc, if_neg hc]
        · rw [Ww_mk h0 a, Ww_mk h0 a]
          exact ih _ _ _ _ _ _ _ _ _ hp e hf'
        · subst b
          rw [Ww_ap h0 a, Ww_ap h0 a]
          have hin := ih f' _ _ _ _ _ _ _ c hp e1 hf'
          have hnx : ∀ q c, p ≤ q → q ≤ n → (q = p ∨ P 1 s = 14) → Ww n tx te P H f' 0 (P 3 s) q (if q = p then u else P 5 s) c = Ww n tx te P H f 0 (P 3 s) q (if q = p then u else P 5 s) c := fun q c q0 q1 q2 => ih _ _ _ _ _ _ _ _ _ q1 (e2 q q0 q1 q2) hf'
          have hnp : ∀ c, Ww n tx te P H f' 0 (P 3 s) p u c = Ww n tx te P H f 0 (P 3 s) p u c := fun c => by have := hnx p c (Int.le_refl _) hp (Or.inl rfl); rwa [if_pos rfl] at this
          rw [hin]
          cases hw : Ww n tx te P H f 1 (P 4 s) p 0 c with
          | nil => simp only [hnp]
          | cons o t =>
            have hr := Ww_rg (n := n) (tx := tx) (te := te) (P := P) (H := H) f 1 (P 4 s) p 0 c hp o (by rw [hw]; exact List.mem_cons_self ..)
            dsimp only
            by_cases h8 : P 1 s = 8
            · rw [if_pos h8, if_pos h8]
            · rw [if_neg h8, if_neg h8]
              by_cases h7 : P 1 s = 7
              · rw [if_pos h7, if_pos h7, hnp]
              · rw [if_neg h7, if_neg h7]
                exact hnx o.1 o.2 hr.1 hr.2 (by omega)
variable (n tx te P H Mx) in
/-- the ways from a step on are L -/
def Ev (lv : Int) (S : List Int) (s p u r ch : Int) (L : qCp → qWs) : Prop := ∃ f, Tm n P Mx f lv S s p u r ch ∧ ∀ c, Ww n tx te P H f lv s p u c = L c
theorem Ev.mono {lv : Int} {S : List Int} {s p u r ch r' ch' : Int} {L : qCp → qWs} (h : Ev n tx te P H Mx lv S s p u r ch L) (hr : r ≤ r') (hc : ch ≤ ch') : Ev n tx te P H Mx lv S s p u r' ch' L := by
  obtain ⟨f, h1, h2⟩ := h
  exact ⟨f, Tm_mono f f _ _ _ _ _ _ _ _ _ h1 (Nat.le_refl _) hr hc, h2⟩
theorem Ev.eq {lv : Int} {S : List Int} {s p u r ch : Int} {L L' : qCp → qWs} (h : Ev n tx te P H Mx lv S s p u r ch L) (hL : ∀ c, L c = L' c) : Ev n tx te P H Mx lv S s p u r ch L' := by
  obtain ⟨f, h1, h2⟩ := h
  exact ⟨f, h1, fun c => (h2 c).trans (hL c)⟩
theorem Ev_0 {lv : Int} {S : List Int} {p u r ch : Int} (h1 : 1 ≤ ch) (h2 : 0 ≤ r) (u0 : 0 ≤ u) (u1 : u ≤ 11) : Ev n tx te P H Mx lv S 0 p u r ch (fun c => if lv = 1 ∨ te = 0 ∨ p = n then [(p, c)] else []) :=
  ⟨1, ⟨⟨h1, h2, u0, u1⟩, Or.inl rfl⟩, fun c => by unfold Ww; rw [if_pos rfl]⟩
section LOC
variable {lv : Int} {S : List Int} {s p u r ch : Int}
theorem Ev_b (hs : 1 ≤ s ∧ s < P 0 7 ∧ P 7 s = lv) (hk : P 1 s = 1) (hd : 0 ≤ P 5 s ∧ P 5 s ≤ 11) (hv : 0 ≤ P 2 s ∧ P 2 s ≤ 255) (hch : 1 ≤ ch) (hr : 0 ≤ r) (hu : 0 ≤ u ∧ u ≤ 11) {L : qCp → qWs} (h : p < n → Ev n tx te P H Mx lv S (P 3 s) (p + 1) (P 5 s) r (ch - 1) L) : Ev n tx te P H Mx lv S s p u r ch (fun c => if p < n ∧ tx p = P 2 s then L c else []) := by
  have h0 : s ≠ 0 := by omega
  by_cases hp : p < n
  · obtain ⟨f, h1, h2⟩ := h hp
    refine ⟨f + 1, ⟨⟨hch, hr, hu.1, hu.2⟩, Or.inr ⟨hs, Or.inl ⟨hk, hd, hv, fun _ => h1⟩⟩⟩, fun c => ?_⟩
    show (if s = 0 then _ else _) = _
    rw [if_neg h0, if_pos hk, h2]
  · refine ⟨1, ⟨⟨hch, hr, hu.1, hu.2⟩, Or.inr ⟨hs, Or.inl ⟨hk, hd, hv, fun w => absurd w hp⟩⟩⟩, fun c => ?_⟩
    dsimp only
    rw [Ww_b h0 hk, if_neg (fun w => hp w.1), if_neg (fun w => hp w.1)]
theorem Ev_s (hs : 1 ≤ s ∧ s < P 0 7 ∧ P 7 s = lv) (hk : P 1 s = 2) (hd : 0 ≤ P 5 s ∧ P 5 s ≤ 11) (hv : 0 ≤ P 2 s ∧ P 2 s < 200) (hch : 1 ≤ ch) (hr : 0 ≤ r) (hu : 0 ≤ u ∧ u ≤ 11) {L : qCp → qWs} (h : p < n → Ev n tx te P H Mx lv S (P 3 s) (p + 1) (P 5 s) r (ch - 1) L) : Ev n tx te P H Mx lv S s p u r ch (fun c => if p < n ∧ H (P 2 s) (tx p).toNat = some true then L c else []) := by
  have h0 : s ≠ 0 := by omega
  by_cases hp : p < n
  · obtain ⟨f, h1, h2⟩ := h hp
    refine ⟨f + 1, ⟨⟨hch, hr, hu.1, hu.2⟩, Or.inr ⟨hs, Or.inr (Or.inl ⟨hk, hd, hv, fun _ => h1⟩)⟩⟩, fun c => ?_⟩
    show (if s = 0 then _ else _) = _
    rw [if_neg h0, if_neg (by omega), if_pos hk, h2]
  · refine ⟨1, ⟨⟨hch, hr, hu.1, hu.2⟩, Or.inr ⟨hs, Or.inr (Or.inl ⟨hk, hd, hv, fun w => absurd w hp⟩)⟩⟩, fun c => ?_⟩
    dsimp only
    rw [Ww_s h0 hk, if_neg (fun w => hp w.1), if_neg (fun w => hp w.1)]
theorem Ev_g (hs : 1 ≤ s ∧ s < P 0 7 ∧ P 7 s = lv) (hk : 3 ≤ P 1 s ∧ P 1 s ≤ 6) (hch : 1 ≤ ch) (hr : 0 ≤ r) (hu : 0 ≤ u ∧ u ≤ 11) {L : qCp → qWs} (h : Ev n tx te P H Mx lv S (P 3 s) p u r (ch - 1) L) : Ev n tx te P H Mx lv S s p u r ch (fun c => if good n tx (P 1 s - 2) p = true then L c else []) := by
  have h0 : s ≠ 0 := by omega
  obtain ⟨f, h1, h2⟩ := h
  refine ⟨f + 1, ⟨⟨hch, hr, hu.1, hu.2⟩, Or.inr ⟨hs, Or.inr (Or.inr (Or.inl ⟨hk, h1⟩))⟩⟩, fun c => ?_⟩
  show (if s = 0 then _ else _) = _
  rw [if_neg h0, if_neg (by omega), if_neg (by omega), if_pos hk, h2]
theorem Ev_sp {c1 c2 : Int} (hs : 1 ≤ s ∧ s < P 0 7 ∧ P 7 s = lv) (hk : P 1 s = 15) (hp : p ≤ n) (hch : 1 ≤ ch) (hr : 1 ≤ r) (hu : 0 ≤ u ∧ u ≤ 11) (hM : c1 + c2 ≤ Mx) {L1 L2 : qCp → qWs} (h : Ev n tx te P H Mx lv S (P 3 s) p u (r - 1) c1 L1) (g : Ev n tx te P H Mx lv S (P 4 s) p u (r - 1) c2 L2) : Ev n tx te P H Mx lv S s p u r ch (fun c => L1 c ++ L2 c) := by
  have h0 : s ≠ 0 := by omega
  obtain ⟨f, h1, h2⟩ := h
  obtain ⟨f', g1, g2⟩ := g
  refine ⟨max f f' + 1, ⟨⟨hch, by omega, hu.1, hu.2⟩, Or.inr ⟨hs, Or.inr (Or.inr (Or.inr (Or.inl ⟨hk, hr, c1, c2, hM, Tm_mono f _ _ _ _ _ _ _ _ _ _ h1 (Nat.le_max_left ..) (Int.le_refl _) (Int.le_refl _), Tm_mono f' _ _ _ _ _ _ _ _ _ _ g1 (Nat.le_max_right ..) (Int.le_refl _) (Int.le_refl _)⟩)))⟩⟩, fun c => ?_⟩
  show (if s = 0 then _ else _) = _
  rw [if_neg h0, if_neg (by omega), if_neg (by omega), if_neg (by omega), if_pos hk, Ww_mono f _ _ _ _ _ _ _ _ c hp h1 (Nat.le_max_left ..), Ww_mono f' _ _ _ _ _ _ _ _ c hp g1 (Nat.le_max_right ..), h2, g2]
theorem Ev_rd (hs : 1 ≤ s ∧ s < P 0 7 ∧ P 7 s = lv) (hk : P 1 s = 16) (hv : 1 ≤ P 2 s ∧ P 2 s ≤ 11) (hch : 1 ≤ ch) (hr : 0 ≤ r) (hu : 0 ≤ u ∧ u ≤ 11) {L : qCp → qWs} (h : P 2 s ≤ u → Ev n tx te P H Mx lv S (P 3 s) p (P 2 s - 1) r (ch - 1) L) : Ev n tx te P H Mx lv S s p u r ch (fun c => if P 2 s ≤ u then L c else []) := by
  have h0 : s ≠ 0 := by omega
  by_cases hp : P 2 s ≤ u
  · obtain ⟨f, h1, h2⟩ := h hp
    refine ⟨f + 1, ⟨⟨hch, hr, hu.1, hu.2⟩, Or.inr ⟨hs, Or.inr (Or.inr (Or.inr (Or.inr (Or.inl ⟨hk, hv, fun _ => h1⟩))))⟩⟩, fun c => ?_⟩
    show (if s = 0 then _ else _) = _
    rw [if_neg h0, if_neg (by omega), if_neg (by omega), if_neg (by omega), if_neg (by omega), if_pos hk, h2]
  · refine ⟨1, ⟨⟨hch, hr, hu.1, hu.2⟩, Or.inr ⟨hs, Or.inr (Or.inr (Or.inr (Or.inr (Or.inl ⟨hk, hv, fun w => absurd w hp⟩))))⟩⟩, fun c => ?_⟩
    dsimp only
    rw [Ww_rd h0 hk, if_neg hp, if_neg hp]
theorem Ev_mk (hs : 1 ≤ s ∧ s < P 0 7 ∧ P 7 s = lv) (hk : P 1 s = 17) (hv : 0 ≤ P 2 s ∧ P 2 s < 20) (hS : lv = 1 → P 2 s ∈ S) (hch : 1 ≤ ch) (hr : 1 ≤ r) (hu : 0 ≤ u ∧ u ≤ 11) {L : qCp → qWs} (h : Ev n tx te P H Mx lv S (P 3 s) p u (r - 1) (ch - 1) L) : Ev n tx te P H Mx lv S s p u r ch (fun c => L (upc c (P 2 s) p)) := by
  have h0 : s ≠ 0 := by omega
  obtain ⟨f, h1, h2⟩ := h
  refine ⟨f + 1, ⟨⟨hch, by omega, hu.1, hu.2⟩, Or.inr ⟨hs, Or.inr (Or.inr (Or.inr (Or.inr (Or.inr (Or.inl ⟨hk, hr, hv, hS, h1⟩)))))⟩⟩, fun c => ?_⟩
  show (if s = 0 then _ else _) = _
  rw [if_neg h0, if_neg (by omega), if_neg (by omega), if_neg (by omega), if_neg (by omega), if_neg (by omega), if_pos hk, h2]
/-- one fuel for all places -/
theorem fu_all {X : Nat → Int → Prop} (hm : ∀ f f' q, X f q → f ≤ f' → X f' q) : ∀ (k : Nat) (p : Int), (∀ q, p ≤ q → q < p + k → ∃ f, X f q) → ∃ f, ∀ q, p ≤ q → q < p + k → X f q := by
  intro k
  induction k with
  | zero => intro p _; exact ⟨0, fun q q0 q1 => by omega⟩
  | succ k ih =>
    intro p h
    obtain ⟨f, hf⟩ := ih p (fun q q0 q1 => h q q0 (by omega))
    obtain ⟨g, hg⟩ := h (p + k) (by omega) (by omega)
    refine ⟨max f g, fun q q0 q1 => ?_⟩
    by_cases e : q = p + k
    · subst e; exact hm g _ _ hg (Nat.le_max_right ..)
    · exact hm f _ _ (hf q q0 (by omega)) (Nat.le_max_left ..)
theorem Ev_ap {S' : List Int} {c1 c2 : Int} (hs : 1 ≤ s ∧ s < P 0 7 ∧ P 7 s = 0) (hk : P 1 s = 7 ∨ P 1 s = 8 ∨ P 1 s = 14) (hd : 0 ≤ P 5 s ∧ P 5 s ≤ 11) (hp : p ≤ n) (hch : 1 ≤ ch) (hr : 1 ≤ r) (hu : 0 ≤ u ∧ u ≤ 11) (hM : c1 + c2 ≤ Mx) {L1 : qCp → qWs} {L2 : Int → qCp → qWs} (h : Ev n tx te P H Mx 1 S' (P 4 s) p 0 (r - 1) c1 L1) (g : ∀ q, p ≤ q → q ≤ n → (q = p ∨ P 1 s = 14) → Ev n tx te P H Mx 0 S (P 3 s) q (if q = p then u else P 5 s) (r - 1 - S'.length) c2 (L2 q)) : Ev n tx te P H Mx 0 S s p u r ch (fun c => match L1 c with
    | [] => if P 1 s = 8 then L2 p c else []
    | o :: _ => if P 1 s = 8 then [] else if P 1 s = 7 then L2 p o.2 else L2 o.1 o.2) := by
  have h0 : s ≠ 0 := by omega
  obtain ⟨f, h1, h2⟩ := h
  obtain ⟨f', hg⟩ := fu_all (X := fun f q => q ≤ n → (q = p ∨ P 1 s = 14) → Tm n P Mx f 0 S (P 3 s) q (if q = p then u else P 5 s) (r - 1 - S'.length) c2 ∧ ∀ c, Ww n tx te P H f 0 (P 3 s) q (if q = p then u else P 5 s) c = L2 q c) (fun f f' q hX hf q1 q2 => ⟨Tm_mono f _ _ _ _ _ _ _ _ _ _ (hX q1 q2).1 hf (Int.le_refl _) (Int.le_refl _), fun c => by rw [Ww_mono f _ _ _ _ _ _ _ _ c q1 (hX q1 q2).1 hf]; exact (hX q1 q2).2 c⟩) (n - p + 1).toNat p (fun q q0 q1 => by
    by_cases hq : q ≤ n ∧ (q = p ∨ P 1 s = 14)
    · obtain ⟨fq, t1, t2⟩ := g q q0 hq.1 hq.2
      exact ⟨fq, fun _ _ => ⟨t1, t2⟩⟩
    · exact ⟨0, fun w1 w2 => absurd ⟨w1, w2⟩ hq⟩)
  have G1 : ∀ q, p ≤ q → q ≤ n → (q = p ∨ P 1 s = 14) → Tm n P Mx (max f f') 0 S (P 3 s) q (if q = p then u else P 5 s) (r - 1 - S'.length) c2 ∧ ∀ c, Ww n tx te P H (max f f') 0 (P 3 s) q (if q = p then u else P 5 s) c = L2 q c := fun q q0 q1 q2 => by
    have := hg q q0 (by omega) q1 q2
    exact ⟨Tm_mono f' _ _ _ _ _ _ _ _ _ _ this.1 (Nat.le_max_right ..) (Int.le_refl _) (Int.le_refl _), fun c => by rw [Ww_mono f' _ _ _ _ _ _ _ _ c q1 this.1 (Nat.le_max_right ..)]; exact this.2 c⟩
  refine ⟨max f f' + 1, ⟨⟨hch, by omega, hu.1, hu.2⟩, Or.inr ⟨hs, Or.inr (Or.inr (Or.inr (Or.inr (Or.inr (Or.inr ⟨hk, rfl, hd, hr, S', c1, c2, hM, Tm_mono f _ _ _ _ _ _ _ _ _ _ h1 (Nat.le_max_left ..) (Int.le_refl _) (Int.le_refl _), fun q q0 q1 q2 => (G1 q q0 q1 q2).1⟩)))))⟩⟩, fun c => ?_⟩
  have gp : ∀ c, Ww n tx te P H (max f f') 0 (P 3 s) p u c = L2 p c := fun c => by have := (G1 p (Int.le_refl _) hp (Or.inl rfl)).2 c; rwa [if_pos rfl] at this
  dsimp only
  rw [Ww_ap h0 hk, Ww_mono f _ _ _ _ _ _ _ _ c hp h1 (Nat.le_max_left ..), h2]
  have hr9 : ∀ o ∈ L1 c, p ≤ o.1 ∧ o.1 ≤ n := fun o ho => Ww_rg f 1 (P 4 s) p 0 c hp o (by rw [h2]; exact ho)
  cases hw : L1 c with
  | nil => dsimp only; rw [gp]
  | cons o t =>
    have ho := hr9 o (by rw [hw]; exact List.mem_cons_self ..)
    dsimp only
    by_cases h8 : P 1 s = 8
    · rw [if_pos h8, if_pos h8]
    · rw [if_neg h8, if_neg h8]
      by_cases h7 : P 1 s = 7
      · rw [if_pos h7, if_pos h7, gp]
      · rw [if_neg h7, if_neg h7]
        exact (G1 o.1 ho.1 ho.2 (by omega)).2 o.2
end LOC
end WD2
