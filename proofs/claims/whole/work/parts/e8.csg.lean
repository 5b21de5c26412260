/-! PURE: two rows of signs that differ only in what is no sign are read alike -/
section SG2
variable {sg sg' : Int → Int}
/-- alike but for what is negative -/
def sgR (sg sg' : Int → Int) : Prop := ∀ i, sg i = sg' i ∨ (sg i < 0 ∧ sg' i < 0)
theorem sgR.eq (h : sgR sg sg') {k : Int} (hk : 0 ≤ k) (i : Int) : (sg i = k) = (sg' i = k) := by
  rcases h i with e | ⟨e1, e2⟩
  · rw [e]
  · exact propext ⟨fun q => by omega, fun q => by omega⟩
theorem sgR.ng (h : sgR sg sg') (i : Int) : (sg i < 0) = (sg' i < 0) := by
  rcases h i with e | ⟨e1, e2⟩
  · rw [e]
  · exact propext ⟨fun q => e2, fun q => e1⟩
theorem isDg_n {s : Int} (h : s < 0) : isDg s = false := by unfold isDg; rw [decide_eq_false (by omega)]; rfl
theorem isKl_n {s : Int} (h : s < 0) : isKl s = false := by
  unfold isKl
  rw [decide_eq_false (by omega), decide_eq_false (by omega), decide_eq_false (by omega), decide_eq_false (by omega), decide_eq_false (by omega), decide_eq_false (by omega)]
  rfl
theorem isQt_n {s : Int} (h : s < 0) : isQt s = false := by
  unfold isQt
  rw [decide_eq_false (by omega), decide_eq_false (by omega), decide_eq_false (by omega), decide_eq_false (by omega)]
  rfl
theorem sNum_r (h : sgR sg sg') : ∀ (f : Nat) (a v : Int), sNum sg f a v = sNum sg' f a v := by
  intro f
  induction f with
  | zero => intro a v; rfl
  | succ f ih =>
    intro a v
    unfold sNum
    rcases h a with e | ⟨e1, e2⟩
    · rw [e, ih]
    · rw [isDg_n e1, isDg_n e2]; rfl
theorem sNm_r (h : sgR sg sg') (a : Int) : sNm sg a = sNm sg' a := by
  unfold sNm
  rw [sNum_r h]
  rcases h a with e | ⟨e1, e2⟩
  · rw [e]
  · rw [isDg_n e1, isDg_n e2]; rfl
theorem sEsc_r (h : sgR sg sg') (a : Int) : sEsc sg a = sEsc sg' a := by
  unfold sEsc
  rcases h a with e | ⟨e1, e2⟩
  · rw [e]
  · rw [if_pos e1, if_pos e2]
theorem sMem_r (h : sgR sg sg') (st : Int) : ∀ (f : Nat) (a : Int) (P : Nat → Bool), sMem sg st f a P = sMem sg' st f a P := by
  intro f
  induction f with
  | zero => intro a P; rfl
  | succ f ih =>
    intro a P
    have ih' : sMem sg st f = sMem sg' st f := funext fun a => funext fun P => ih a P
    have e45 : ∀ i, (sg i = 45) = (sg' i = 45) := h.eq (by decide)
    unfold sMem
    rw [ih', sEsc_r h]
    rcases h a with e | ⟨e1, e2⟩
    · rw [e]
      rcases h (a + 2) with g | ⟨g1, g2⟩
      · rw [g]; simp only [e45]
      · rw [if_neg (show ¬ (sg (a + 1) = 45 ∧ sg (a + 2) ≠ 92 ∧ sg (a + 2) ≠ 93 ∧ 0 ≤ sg (a + 2)) by omega), if_neg (show ¬ (sg' (a + 1) = 45 ∧ sg' (a + 2) ≠ 92 ∧ sg' (a + 2) ≠ 93 ∧ 0 ≤ sg' (a + 2)) by omega)]
    · rw [if_pos (Or.inl e1), if_pos (Or.inl e2)]
theorem sSet_r (h : sgR sg sg') (a : Int) : sSet sg a = sSet sg' a := by
  unfold sSet
  have e94 : ∀ i, (sg i = 94) = (sg' i = 94) := h.eq (by decide)
  simp only [sMem_r h, e94]
theorem sAt_r (h : sgR sg sg') (a : Int) : sAt sg a = sAt sg' a := by
  unfold sAt
  rw [sEsc_r h, sSet_r h]
  rcases h a with e | ⟨e1, e2⟩
  · rw [e]
    rcases h (a + 1) with g | ⟨g1, g2⟩
    · rw [g]
    · rw [if_neg (show ¬ sg (a + 1) = 98 by omega), if_neg (show ¬ sg (a + 1) = 66 by omega), if_neg (show ¬ sg' (a + 1) = 98 by omega), if_neg (show ¬ sg' (a + 1) = 66 by omega)]
  · rw [if_pos (Or.inl e1), if_pos (Or.inl e2)]
theorem sTl_r (h : sgR sg sg') (lk : Int) (e : qT) (l u a : Int) : sTl sg lk e l u a = sTl sg' lk e l u a := by
  unfold sTl
  rcases h a with g | ⟨g1, g2⟩
  · rw [g]
  · rw [if_neg (show ¬ sg a = 63 by omega), if_neg (show ¬ sg a = 43 by omega), if_neg (show ¬ sg' a = 63 by omega), if_neg (show ¬ sg' a = 43 by omega)]
theorem sQt_r (h : sgR sg sg') (lk : Int) (e : qT) (a : Int) : sQt sg lk e a = sQt sg' lk e a := by
  have h1 : sTl sg = sTl sg' := funext fun lk => funext fun e => funext fun l => funext fun u => funext fun a => sTl_r h lk e l u a
  have h2 : sNm sg = sNm sg' := funext fun a => sNm_r h a
  have e44 : ∀ i, (sg i = 44) = (sg' i = 44) := h.eq (by decide)
  have e125 : ∀ i, (sg i = 125) = (sg' i = 125) := h.eq (by decide)
  have e123 : ∀ i, (sg i = 123) = (sg' i = 123) := h.eq (by decide)
  have e43 : ∀ i, (sg i = 43) = (sg' i = 43) := h.eq (by decide)
  have e63 : ∀ i, (sg i = 63) = (sg' i = 63) := h.eq (by decide)
  have eq : isQt (sg a) = isQt (sg' a) := by
    rcases h a with g | ⟨g1, g2⟩
    · rw [g]
    · rw [isQt_n g1, isQt_n g2]
  unfold sQt
  simp only [h1, h2, e44, e125, e123, e43, e63, eq]
theorem sStep_r (h : sgR sg sg') (c : sC) : sStep sg c = sStep sg' c := by
  have h1 : sQt sg = sQt sg' := funext fun lk => funext fun e => funext fun a => sQt_r h lk e a
  have h2 : sAt sg = sAt sg' := funext fun a => sAt_r h a
  have e1 : ∀ i, (sg i = 124) = (sg' i = 124) := h.eq (by decide)
  have e2 : ∀ i, (sg i = 40) = (sg' i = 40) := h.eq (by decide)
  have e3 : ∀ i, (sg i = 41) = (sg' i = 41) := h.eq (by decide)
  have e4 : ∀ i, (sg i = 63) = (sg' i = 63) := h.eq (by decide)
  have e5 : ∀ i, (sg i = 58) = (sg' i = 58) := h.eq (by decide)
  have e6 : ∀ i, (sg i = 61) = (sg' i = 61) := h.eq (by decide)
  have e7 : ∀ i, (sg i = 33) = (sg' i = 33) := h.eq (by decide)
  have h3 : sBr sg = sBr sg' := by
    funext a gr lk fr
    unfold sBr
    simp only [e4, e5, e6, e7]
  have h4 : sCl sg = sCl sg' := by
    funext a gr lk f r
    unfold sCl
    simp only [h1]
  unfold sStep
  simp only [h1, h2, h3, h4, e1, e2, e3]
/-- a step reads no further than the last sign -/
theorem sEsc_M {M a b : Int} {K : Nat → Bool} (hM : ∀ i, 0 ≤ sg i → i < M) (h : sEsc sg a = .ok (K, b)) : b ≤ M := by
  unfold sEsc at h
  split at h
  · cases h
  · have := hM a (by omega)
    split at h
    · cases h; omega
    · split at h
      · cases h
      · cases h; omega
theorem sMem_M {M st : Int} (hM : ∀ i, 0 ≤ sg i → i < M) : ∀ (f : Nat) (x : Int) (P P' : Nat → Bool) (a : Int), sMem sg st f x P = .ok (P', a) → a ≤ M := by
  intro f
  induction f with
  | zero => intro x P P' a hh; cases hh
  | succ f ih =>
    intro x P P' a hh
    unfold sMem at hh
    split at hh
    · cases hh
    · have h0 := hM x (by omega)
      split at hh
      · cases hh; omega
      · split at hh
        · split at hh
          · cases hh
          · exact ih _ _ _ _ hh
        · split at hh
          · split at hh
            · cases hh
            · exact ih _ _ _ _ hh
          · exact ih _ _ _ _ hh
theorem sAt_M {M a b : Int} {e : qT} (hM : ∀ i, 0 ≤ sg i → i < M) (h : sAt sg a = .ok (e, b)) : b ≤ M := by
  unfold sAt at h
  split at h
  · cases h
  · have h0 := hM a (by omega)
    split at h
    · cases h; omega
    · split at h
      · cases h; omega
      · split at h
        · split at h
          · rename_i q; have := hM (a + 1) (by omega); cases h; omega
          · split at h
            · rename_i q; have := hM (a + 1) (by omega); cases h; omega
            · split at h
              · cases h
              · rename_i hE; cases h; exact sEsc_M hM hE
        · split at h
          · cases h; omega
          · split at h
            · split at h
              · cases h
              · rename_i hE
                cases h
                unfold sSet at hE
                split at hE
                · split at hE
                  · cases hE
                  · rename_i hm; cases hE; exact sMem_M hM _ _ _ _ _ hm
                · exact sMem_M hM _ _ _ _ _ hE
            · cases h; omega
theorem sNum_M {M : Int} (hM : ∀ i, 0 ≤ sg i → i < M) : ∀ (f : Nat) (a v : Int), a ≤ M → (sNum sg f a v).2 ≤ M := by
  intro f
  induction f with
  | zero => intro a v h; exact h
  | succ f ih =>
    intro a v h
    unfold sNum
    split
    · rename_i q
      have : 0 ≤ sg a := by
        unfold isDg at q
        simp only [Bool.and_eq_true, decide_eq_true_eq] at q
        omega
      have := hM a this
      exact ih _ _ (by omega)
    · exact h
theorem sNm_M {M a l b : Int} (hM : ∀ i, 0 ≤ sg i → i < M) (h : sNm sg a = .ok (l, b)) : b ≤ M := by
  unfold sNm at h
  split at h
  · rename_i q
    have q0 : 0 ≤ sg a := by
      unfold isDg at q
      simp only [Bool.and_eq_true, decide_eq_true_eq] at q
      omega
    have q1 := hM a q0
    split at h
    · cases h; omega
    · split at h
      · cases h
      · have := sNum_M hM 200 a 0 (by omega)
        cases h' : sNum sg 200 a 0 with
        | mk u v =>
          rw [h'] at h this
          cases h
          exact this
  · cases h
theorem sTl_M {M lk l u a b : Int} {e q : qT} (hM : ∀ i, 0 ≤ sg i → i < M) (ha : a ≤ M) (h : sTl sg lk e l u a = .ok (q, b)) : b ≤ M := by
  unfold sTl at h
  split at h
  · rename_i w; have := hM a (by omega); cases h; omega
  · split at h
    · rename_i w
      have := hM a (by omega)
      split at h
      · cases h
      · cases h; omega
    · cases h; exact ha
theorem sQt_M {M lk a b : Int} {e q : qT} (hM : ∀ i, 0 ≤ sg i → i < M) (ha : a ≤ M) (h : sQt sg lk e a = .ok (q, b)) : b ≤ M := by
  unfold sQt at h
  split at h
  · rename_i w
    have h0 : 0 ≤ sg a := by
      by_cases z : sg a < 0
      · rw [isQt_n z] at w; exact absurd w (by decide)
      · omega
    have h1 := hM a h0
    split at h
    · cases h
    · split at h
      · split at h
        · cases h
        · rename_i l a1 hn1
          split at h
          · split at h
            · rename_i w2; have := hM (a1 + 1) (by omega); exact sTl_M hM (by omega) h
            · split at h
              · cases h
              · rename_i h' a2 hn2
                split at h
                · cases h
                · split at h
                  · rename_i w2; have := hM a2 (by omega); exact sTl_M hM (by omega) h
                  · cases h
          · split at h
            · rename_i w2; have := hM a1 (by omega); exact sTl_M hM (by omega) h
            · cases h
      · exact sTl_M hM (by omega) h
  · cases h; exact ha
theorem sStep_M {M : Int} {c c' : sC} (hM : ∀ i, 0 ≤ sg i → i < M) (h : sStep sg c = .ok c') : c'.1 ≤ M := by
  have hp := hM _ (sStep_pos h).1
  obtain ⟨at', gr, lk, fr⟩ := c
  cases fr with
  | nil => cases h
  | cons f r =>
    obtain ⟨hw, g, wy, rw⟩ := f
    have un : sStep sg (at', gr, lk, (hw, g, wy, rw) :: r) = (if sg at' = 124 then .ok (at' + 1, gr, lk, (hw, g, some (clo wy rw), .num 0) :: r) else if sg at' = 40 then sBr sg at' gr lk ((hw, g, wy, rw) :: r) else if sg at' = 41 then sCl sg at' gr lk (hw, g, wy, rw) r else match sAt sg at' with
        | .error w => .error w
        | .ok (e, a) => match sQt sg lk e a with
          | .error w => .error w
          | .ok (q, a') => .ok (a', gr, lk, (hw, g, wy, .add rw q) :: r)) := rfl
    rw [un] at h
    have hp : at' < M := hp
    split at h
    · cases h; show at' + 1 ≤ M; omega
    · split at h
      · unfold sBr at h
        split at h
        · cases h
        · split at h
          · split at h
            · rename_i w; have := hM (at' + 2) (by omega); cases h; show at' + 3 ≤ M; omega
            · split at h
              · rename_i w
                have := hM (at' + 2) (by omega)
                split at h
                · cases h
                · cases h; show at' + 3 ≤ M; omega
              · cases h
          · split at h
            · cases h
            · cases h; show at' + 1 ≤ M; omega
      · split at h
        · unfold sCl at h
          split at h
          · cases h
          · split at h
            · cases h
            · rename_i hq
              cases h
              exact sQt_M hM (by omega) hq
        · split at h
          · cases h
          · rename_i hA
            split at h
            · cases h
            · rename_i hq
              cases h
              exact sQt_M hM (sAt_M hM hA) hq
/-- behind the last sign: where one row of signs ends and the other goes on with what is no sign -/
theorem sRun_cut {M : Int} (hR : sgR sg sg') (hM : ∀ i, 0 ≤ sg i → i < M) (h1 : ∀ i, 0 ≤ i → i < M → sg i ≠ -1 ∧ sg i = sg' i) (h2 : sg M = -1) (h3 : sg' M = -2) : ∀ (f : Nat) (c : sC), 0 ≤ c.1 → c.1 ≤ M → M < c.1 + f → ((∃ w, sRun sg f c = .error w ∧ sRun sg' f c = .error w) ∨ (∃ c', sRun sg f c = .ok c' ∧ c'.1 = M ∧ sRun sg' f c = .error M)) := by
  intro f
  induction f with
  | zero => intro c _ _ h; omega
  | succ f ih =>
    intro c c0 cM hf
    by_cases e : c.1 = M
    · right
      refine ⟨c, ?_, e, ?_⟩
      · unfold sRun
        rw [e, if_pos h2]
      · unfold sRun
        rw [e, if_neg (by omega)]
        have : sStep sg' c = .error M := by
          obtain ⟨at', gr, lk, fr⟩ := c
          have e : at' = M := e
          subst e
          cases fr with
          | nil => rfl
          | cons f r =>
            unfold sStep
            dsimp only
            rw [if_neg (show ¬ sg' at' = 124 by omega), if_neg (show ¬ sg' at' = 40 by omega), if_neg (show ¬ sg' at' = 41 by omega)]
            have : sAt sg' at' = .error at' := by unfold sAt; rw [if_pos (Or.inl (by omega))]
            rw [this]
        rw [this]
    · obtain ⟨q1, q2⟩ := h1 c.1 c0 (by omega)
      unfold sRun
      rw [if_neg q1, if_neg (by rw [← q2]; exact q1), ← sStep_r hR]
      cases hs : sStep sg c with
      | error w => exact Or.inl ⟨w, rfl, rfl⟩
      | ok c' =>
        have := (sStep_pos hs).2
        exact ih c' (by omega) (sStep_M hM hs) (by omega)
/-- 200 signs, and then more bytes -/
theorem sParse_cut (hR : sgR sg sg') (hM : ∀ i, 0 ≤ sg i → i < 200) (h1 : ∀ i, 0 ≤ i → i < 200 → sg i ≠ -1 ∧ sg i = sg' i) (h2 : sg 200 = -1) (h3 : sg' 200 = -2) : (∀ w, sParse sg = .error w → sParse sg' = .error w) ∧ (∀ e gr, sParse sg = .ok (e, gr) → sParse sg' = .error 200) := by
  unfold sParse
  rcases sRun_cut hR hM h1 h2 h3 201 (0, 0, 0, [(1, 0, none, .num 0)]) (by show (0 : Int) ≤ 0; decide) (by show (0 : Int) ≤ 200; decide) (by show (200 : Int) < 0 + ((201 : Nat) : Int); decide) with ⟨w, e1, e2⟩ | ⟨c', e1, e2, e3⟩
  · rw [e1, e2]
    exact ⟨fun w' h => h, fun e gr h => by cases h⟩
  · rw [e1, e3]
    refine ⟨fun w h => ?_, fun e gr h => rfl⟩
    obtain ⟨at', gr, lk, fr⟩ := c'
    have e2 : at' = 200 := e2
    subst e2
    change sTop (200, gr, lk, fr) = .error w at h
    show Except.error 200 = Except.error w
    unfold sTop at h
    split at h
    · cases h
    · cases h; rfl
end SG2
