/-! THE CLASS'S READER: what it reads is what is to be read -/
def sgS (B : qB) (a : Nat) (p : Int) : Int := if B a 1 ≤ p then -1 else if 200 ≤ p ∨ byA B a p < 32 ∨ 126 < byA B a p then -2 else byA B a p
theorem sgC_S (B : qB) (p : Int) : sgC B p = sgS B (B 100 1).toNat p := rfl
theorem sgS_lt {B : qB} {a : Nat} {i : Int} (h : 0 ≤ sgS B a i) : i < 200 := by
  unfold sgS at h
  split at h
  · omega
  · split at h <;> omega
section SGP
variable {sg : Int → Int}
theorem sEsc_lt {a b : Int} {K : Nat → Bool} (h : sEsc sg a = .ok (K, b)) : a < b := by
  unfold sEsc at h
  split at h
  · cases h
  · split at h
    · cases h; omega
    · split at h
      · cases h
      · cases h; omega
theorem sMem_lt {st : Int} : ∀ (f : Nat) (x : Int) (P P' : Nat → Bool) (a : Int), sMem sg st f x P = .ok (P', a) → x < a := by
  intro f
  induction f with
  | zero => intro x P P' a hh; cases hh
  | succ f ih =>
    intro x P P' a hh
    by_cases hx : sg x = 93
    · by_cases hs : x = st
      · unfold sMem at hh; rw [if_pos (Or.inr ⟨hx, hs⟩)] at hh; cases hh
      · rw [sMem_e hx hs] at hh; cases hh; omega
    · rw [sMem_s hx] at hh
      cases hm : mSt sg x with
      | error w => rw [hm] at hh; cases hh
      | ok K =>
        obtain ⟨K, b⟩ := K
        rw [hm] at hh
        have := ih b _ _ _ hh
        have := mSt_lt hm
        omega
theorem sAt_lt {e : qT} {a b : Int} (h : sAt sg a = .ok (e, b)) : 0 ≤ sg a ∧ a < b := by
  unfold sAt at h
  split at h
  · cases h
  · rename_i h0
    have h0' : 0 ≤ sg a := by omega
    refine ⟨h0', ?_⟩
    split at h
    · cases h; omega
    · split at h
      · cases h; omega
      · split at h
        · split at h
          · cases h; omega
          · split at h
            · cases h; omega
            · split at h
              · cases h
              · rename_i hE; cases h; have := sEsc_lt hE; omega
        · split at h
          · cases h; omega
          · split at h
            · split at h
              · cases h
              · rename_i hE
                cases h
                unfold sSet at hE
                split at hE
                · split at hE
                  · cases hE
                  · rename_i hM; cases hE; have := sMem_lt _ _ _ _ _ hM; omega
                · have := sMem_lt _ _ _ _ _ hE; omega
            · cases h; omega
theorem sQt_le {lk : Int} {e q : qT} {a b : Int} (h : sQt sg lk e a = .ok (q, b)) : a ≤ b := by
  unfold sQt at h
  split at h
  · split at h
    · cases h
    · split at h
      · split at h
        · cases h
        · rename_i l a1 hn1
          have n1 := (sNm_bd hn1).1
          split at h
          · split at h
            · have := (sTl_bd h).1; omega
            · split at h
              · cases h
              · rename_i h' a2 hn2
                have n2 := (sNm_bd hn2).1
                split at h
                · cases h
                · split at h
                  · have := (sTl_bd h).1; omega
                  · cases h
          · split at h
            · have := (sTl_bd h).1; omega
            · cases h
      · have := (sTl_bd h).1; omega
  · cases h; omega
theorem sStep_pos {c c' : sC} (h : sStep sg c = .ok c') : 0 ≤ sg c.1 ∧ c.1 < c'.1 := by
  obtain ⟨at', gr, lk, fr⟩ := c
  cases fr with
  | nil => cases h
  | cons f r =>
    obtain ⟨hw, g, wy, rw⟩ := f
    have un : sStep sg (at', gr, lk, (hw, g, wy, rw) :: r) = (if sg at' = 124 then .ok (at' + 1, gr, lk, (hw, g, some (clo wy rw), .num 0) :: r) else if sg at' = 40 then sBr sg at' gr lk ((hw, g, wy, rw) :: r) else if sg at' = 41 then sCl sg at' gr lk (hw, g, wy, rw) r else match sAt sg at' with
        | .error w => .error w
        | .ok (e, a) => match sQt sg lk e a with
          | .error w => .error w
          | .ok (q, a') => .ok (a', gr, lk, (hw, g, wy, .add rw q) :: r)) := rfl
    rw [un] at h
    show 0 ≤ sg at' ∧ at' < c'.1
    split at h
    · cases h; exact ⟨by omega, by show at' < at' + 1; omega⟩
    · split at h
      · refine ⟨by omega, ?_⟩
        unfold sBr at h
        split at h
        · cases h
        · split at h
          · split at h
            · cases h; show at' < at' + 3; omega
            · split at h
              · split at h
                · cases h
                · cases h; show at' < at' + 3; omega
              · cases h
          · split at h
            · cases h
            · cases h; show at' < at' + 1; omega
      · split at h
        · refine ⟨by omega, ?_⟩
          unfold sCl at h
          split at h
          · cases h
          · split at h
            · cases h
            · rename_i q a hq
              have := sQt_le hq
              cases h; show at' < a; omega
        · split at h
          · cases h
          · rename_i e a he
            have h1 := sAt_lt he
            split at h
            · cases h
            · rename_i q a' hq
              have h2 := sQt_le hq
              cases h; exact ⟨h1.1, by show at' < a'; omega⟩
theorem sN_len (hs : ∀ i, 0 ≤ sg i → i < 200) : ∀ (k : Nat) (c c' : sC), sN sg k c = .ok c' → k = 0 ∨ c.1 + k ≤ 200 := by
  intro k
  induction k with
  | zero => intro c c' _; exact Or.inl rfl
  | succ k ih =>
    intro c c' h
    have un : sN sg (k + 1) c = if sg c.1 = -1 then .error (-7) else match sStep sg c with
      | .error w => .error w
      | .ok c' => sN sg k c' := rfl
    rw [un] at h
    split at h
    · cases h
    · cases hc : sStep sg c with
      | error w => rw [hc] at h; cases h
      | ok c2 =>
        rw [hc] at h
        have p := sStep_pos hc
        have l := hs _ p.1
        rcases ih c2 c' h with q | q
        · right; omega
        · right; omega
theorem sRun_N : ∀ (k f : Nat) (c c' : sC), sN sg k c = .ok c' → sRun sg (k + f) c = sRun sg f c' := by
  intro k
  induction k with
  | zero => intro f c c' h; cases h; rw [Nat.zero_add]
  | succ k ih =>
    intro f c c' h
    rw [show k + 1 + f = (k + f) + 1 by omega]
    have un : sN sg (k + 1) c = if sg c.1 = -1 then .error (-7) else match sStep sg c with
      | .error w => .error w
      | .ok c' => sN sg k c' := rfl
    have un2 : sRun sg ((k + f) + 1) c = if sg c.1 = -1 then .ok c else match sStep sg c with
      | .error w => .error w
      | .ok c' => sRun sg (k + f) c' := rfl
    rw [un] at h
    rw [un2]
    split at h
    · cases h
    · rename_i he
      rw [if_neg he]
      cases hc : sStep sg c with
      | error w => rw [hc] at h; cases h
      | ok c2 => rw [hc] at h; exact ih f c2 c' h
/-- read to the end -/
theorem parse_end (hs : ∀ i, 0 ≤ sg i → i < 200) {c : sC} (h : sGo sg (0, 0, 0, [(1, 0, none, .num 0)]) c) (he : sg c.1 = -1) : sParse sg = sTop c := by
  obtain ⟨k, hk⟩ := h
  have hl := sN_len hs k _ _ hk
  have k1 : k ≤ 200 := by
    rcases hl with q | q
    · omega
    · have : (0 : Int) + k ≤ 200 := q
      omega
  have : sRun sg 201 (0, 0, 0, [(1, 0, none, .num 0)]) = .ok c := by
    rw [show 201 = k + (200 - k + 1) by omega, sRun_N k _ _ _ hk]
    show (if sg c.1 = -1 then _ else _) = _
    rw [if_pos he]
  unfold sParse
  rw [this]
theorem parse_err (hs : ∀ i, 0 ≤ sg i → i < 200) {w : Int} (h : sErr sg (0, 0, 0, [(1, 0, none, .num 0)]) w) : sParse sg = .error w := by
  obtain ⟨c, ⟨k, hk⟩, he, hw⟩ := h
  have hl := sN_len hs k _ _ hk
  have k1 : k ≤ 200 := by
    rcases hl with q | q
    · omega
    · have : (0 : Int) + k ≤ 200 := q
      omega
  have : sRun sg 201 (0, 0, 0, [(1, 0, none, .num 0)]) = .error w := by
    rw [show 201 = k + (200 - k + 1) by omega, sRun_N k _ _ _ hk]
    show (if sg c.1 = -1 then _ else match sStep sg c with | .error w => _ | .ok c' => _) = _
    rw [if_neg he, hw]
  unfold sParse
  rw [this]
theorem parse_bad (hs : ∀ i, 0 ≤ sg i → i < 200) {w : Int} (h : sBad sg (0, 0, 0, [(1, 0, none, .num 0)]) w) : sParse sg = .error w := by
  rcases h with h | ⟨c, h1, h2, h3, h4⟩
  · exact parse_err hs h
  · rw [parse_end hs h1 h2, h4]
    obtain ⟨a, b, cc, fr⟩ := c
    unfold sTop
    match fr, h3 with
    | [x], h3 => exact absurd h3 (by simp)
    | x :: y :: t, _ => rfl
end SGP
/-- how deep brackets stand within one another -/
def bkd : qT → Int
  | .num _ => 0
  | .var _ => 0
  | .add a b => max (bkd a) (bkd b)
  | .sub a b => max (bkd a) (bkd b)
  | .neg a => bkd a + 1
  | .mulL _ a => bkd a + 1
  | .mulR a _ => bkd a
theorem bkd_nn : ∀ e : qT, 0 ≤ bkd e := by
  intro e
  induction e with
  | num k => exact Int.le_refl _
  | var s => exact Int.le_refl _
  | add a b h1 h2 => unfold bkd; omega
  | sub a b h1 h2 => unfold bkd; omega
  | neg a h => unfold bkd; omega
  | mulL k a h => unfold bkd; omega
  | mulR a k h => unfold bkd; omega
def frI : List sF → Prop
  | [] => True
  | (hw, g, wy, rw) :: r => (wf rw ∧ bkd rw ≤ 10 - r.length) ∧ (match wy with
    | none => True
    | some w => wf w ∧ bkd w ≤ 10 - r.length) ∧ (hw = 4 → 1 ≤ g ∧ g ≤ 9) ∧ frI r
def cfI (c : sC) : Prop := frI c.2.2.2 ∧ (0 ≤ c.2.1 ∧ c.2.1 ≤ 9) ∧ frL c.2.2.2 ≤ c.1 ∧ c.2.2.2.length ≤ 11
theorem clo_I {wy : Option qT} {rw : qT} {n : Int} (h1 : wf rw ∧ bkd rw ≤ n) (h2 : match wy with
    | none => True
    | some w => wf w ∧ bkd w ≤ n) : (wf (clo wy rw) ∧ bkd (clo wy rw) ≤ n) ∧ ln (clo wy rw) = lnO wy + ln rw := by
  cases wy with
  | none => exact ⟨h1, by show ln rw = 0 + ln rw; omega⟩
  | some w =>
    have h2 : wf w ∧ bkd w ≤ n := h2
    refine ⟨⟨⟨h2.1, h1.1⟩, ?_⟩, ?_⟩
    · show max (bkd w) (bkd rw) ≤ n
      omega
    · show ln w + ln rw + 1 = ln w + 1 + ln rw
      omega
theorem sQt_bkd {sg : Int → Int} {lk : Int} {e q : qT} {a b : Int} (h : sQt sg lk e a = .ok (q, b)) : bkd q = bkd e := by
  have tl : ∀ l' h' a', sTl sg lk e l' h' a' = .ok (q, b) → bkd q = bkd e := by
    intro l' h' a' ht
    obtain ⟨-, g, -, -, rfl⟩ := sTl_bd ht
    rfl
  unfold sQt at h
  split at h
  · split at h
    · cases h
    · split at h
      · split at h
        · cases h
        · split at h
          · split at h
            · exact tl _ _ _ h
            · split at h
              · cases h
              · split at h
                · cases h
                · split at h
                  · exact tl _ _ _ h
                  · cases h
          · split at h
            · exact tl _ _ _ h
            · cases h
      · exact tl _ _ _ h
  · cases h; rfl
theorem sAt_bkd {sg : Int → Int} {e : qT} {a b : Int} (h : sAt sg a = .ok (e, b)) : bkd e = 0 := by
  unfold sAt at h
  split at h
  · cases h
  · split at h
    · cases h; rfl
    · split at h
      · cases h; rfl
      · split at h
        · split at h
          · cases h; rfl
          · split at h
            · cases h; rfl
            · split at h
              · cases h
              · cases h; rfl
        · split at h
          · cases h; rfl
          · split at h
            · split at h
              · cases h
              · cases h; rfl
            · cases h; rfl
theorem cfI_step {sg : Int → Int} {c c' : sC} (hi : cfI c) (h : sStep sg c = .ok c') : cfI c' := by
  obtain ⟨at', gr, lk, fr⟩ := c
  obtain ⟨h1, h2, h3, h4⟩ := hi
  cases fr with
  | nil => cases h
  | cons f r =>
    obtain ⟨hw, g, wy, rw⟩ := f
    obtain ⟨i1, i2, i3, i4⟩ := h1
    have h2 : 0 ≤ gr ∧ gr ≤ 9 := h2
    have h3 : lnO wy + ln rw + frL r ≤ at' := h3
    have h4 : r.length + 1 ≤ 11 := h4
    have cI := clo_I i1 i2
    have un : sStep sg (at', gr, lk, (hw, g, wy, rw) :: r) = (if sg at' = 124 then .ok (at' + 1, gr, lk, (hw, g, some (clo wy rw), .num 0) :: r) else if sg at' = 40 then sBr sg at' gr lk ((hw, g, wy, rw) :: r) else if sg at' = 41 then sCl sg at' gr lk (hw, g, wy, rw) r else match sAt sg at' with
        | .error w => .error w
        | .ok (e, a) => match sQt sg lk e a with
          | .error w => .error w
          | .ok (q, a') => .ok (a', gr, lk, (hw, g, wy, .add rw q) :: r)) := rfl
    rw [un] at h
    have hfr : frI ((hw, g, wy, rw) :: r) := ⟨i1, i2, i3, i4⟩
    have z0 : ∀ n : Nat, (n : Int) ≤ 10 → wf (.num 0) ∧ bkd (.num 0) ≤ 10 - (n : Int) := fun n hn => ⟨⟨by decide, by decide⟩, by show (0 : Int) ≤ _; omega⟩
    split at h
    · cases h
      refine ⟨⟨z0 _ (by omega), cI.1, i3, i4⟩, h2, ?_, h4⟩
      show ln (clo wy rw) + 1 + 0 + frL r ≤ at' + 1
      omega
    · split at h
      · have lf : ((hw, g, wy, rw) :: r).length = r.length + 1 := rfl
        unfold sBr at h
        split at h
        · cases h
        · rename_i h11
          have h10 : (r.length + 1 : Nat) ≤ 10 := by omega
          have l0 : frL ((hw, g, wy, rw) :: r) = lnO wy + ln rw + frL r := rfl
          split at h
          · split at h
            · cases h
              refine ⟨⟨z0 _ (by omega), trivial, fun w => absurd w (by decide), hfr⟩, h2, ?_, ?_⟩
              · show 0 + 0 + frL ((hw, g, wy, rw) :: r) ≤ at' + 3; omega
              · show (r.length + 1) + 1 ≤ 11; omega
            · split at h
              · split at h
                · cases h
                · cases h
                  refine ⟨⟨z0 _ (by omega), trivial, fun w => ?_, hfr⟩, h2, ?_, ?_⟩
                  · exfalso; split at w <;> omega
                  · show 0 + 0 + frL ((hw, g, wy, rw) :: r) ≤ at' + 3; omega
                  · show (r.length + 1) + 1 ≤ 11; omega
              · cases h
          · split at h
            · cases h
            · cases h
              refine ⟨⟨z0 _ (by omega), trivial, fun _ => by omega, hfr⟩, by show 0 ≤ gr + 1 ∧ gr + 1 ≤ 9; omega, ?_, ?_⟩
              · show 0 + 0 + frL ((hw, g, wy, rw) :: r) ≤ at' + 1; omega
              · show (r.length + 1) + 1 ≤ 11; omega
      · split at h
        · cases r with
          | nil => cases h
          | cons f2 r2 =>
            obtain ⟨hw2, g2, wy2, rw2⟩ := f2
            have h : (match sQt sg (if hw = 5 ∨ hw = 6 then lk - 1 else lk) (brk hw g (clo wy rw)) (at' + 1) with | .error w => .error w | .ok (q, a) => .ok (a, gr, (if hw = 5 ∨ hw = 6 then lk - 1 else lk), (hw2, g2, wy2, .add rw2 q) :: r2)) = (.ok c' : Except Int sC) := h
            obtain ⟨k1, k2, k3, k4⟩ := i4
            have h3' : lnO wy + ln rw + (lnO wy2 + ln rw2 + frL r2) ≤ at' := h3
            split at h
            · cases h
            · rename_i q a hq
              cases h
              have lr : ((hw2, g2, wy2, rw2) :: r2).length = r2.length + 1 := rfl
              have wb : wf (brk hw g (clo wy rw)) ∧ bkd (brk hw g (clo wy rw)) = bkd (clo wy rw) + 1 ∧ ln (brk hw g (clo wy rw)) = ln (clo wy rw) + 1 := by
                unfold brk
                split
                · rename_i e4; have := i3 e4; exact ⟨⟨by omega, by omega, cI.1.1⟩, rfl, rfl⟩
                · split
                  · exact ⟨⟨by decide, by decide, cI.1.1⟩, rfl, rfl⟩
                  · split
                    · exact ⟨⟨by decide, by decide, cI.1.1⟩, rfl, rfl⟩
                    · exact ⟨cI.1.1, rfl, rfl⟩
              have qb := sQt_bd wb.1 hq
              have qk := sQt_bkd hq
              have b0 := cI.1.2
              refine ⟨⟨⟨⟨k1.1, qb.1⟩, ?_⟩, k2, k3, k4⟩, h2, ?_, by show r2.length + 1 ≤ 11; omega⟩
              · show max (bkd rw2) (bkd q) ≤ 10 - (r2.length : Int)
                have := k1.2
                rw [lr] at b0
                omega
              · show lnO wy2 + (ln rw2 + ln q) + frL r2 ≤ a
                have := cI.2
                omega
        · split at h
          · cases h
          · rename_i e a he
            have ea := sAt_bd he
            have eb := sAt_bkd he
            have el := sAt_lt he
            split at h
            · cases h
            · rename_i q a' hq
              have qb := sQt_bd ea.1 hq
              have qk := sQt_bkd hq
              cases h
              refine ⟨⟨⟨⟨i1.1, qb.1⟩, ?_⟩, i2, i3, i4⟩, h2, ?_, h4⟩
              · show max (bkd rw) (bkd q) ≤ 10 - (r.length : Int)
                have := i1.2
                omega
              · show lnO wy + (ln rw + ln q) + frL r ≤ a'
                omega
theorem cfI_go {sg : Int → Int} {c c' : sC} (h : sGo sg c c') (hi : cfI c) : cfI c' := by
  obtain ⟨k, hk⟩ := h
  revert c
  induction k with
  | zero => intro c hi hk; cases hk; exact hi
  | succ k ih =>
    intro c hi hk
    have un : sN sg (k + 1) c = if sg c.1 = -1 then .error (-7) else match sStep sg c with
      | .error w => .error w
      | .ok c' => sN sg k c' := rfl
    rw [un] at hk
    split at hk
    · cases hk
    · cases hc : sStep sg c with
      | error w => rw [hc] at hk; cases hk
      | ok c2 => rw [hc] at hk; exact ih (cfI_step hi hc) hk
/-- weights as the class counts them -/
def WtI (B : qB) : Prop := ∀ x, 0 ≤ x → x < 408 → 0 ≤ B 97 x ∧ B 97 x ≤ 401
/-- a pattern has been read into the tree -/
def RdT (sg : Int → Int) (B' : qB) (e : qT) : Prop := (∀ s, e = .add (.num 0) (.var s) → (B' 91 (B' 93 (B' 93 (B' 100 4))) = 2 ↔ sKS sg 0)) ∧ xnd B' (B' 90 8) (B' 100 4) 13 ∧ Nd B' (B' 98 1) e (B' 100 4) 1 (B' 93 (B' 100 4)) ∧ B' 97 (B' 100 4) = min (wR e) 401 ∧ B' 90 8 ≤ 408 ∧ (0 ≤ B' 98 1 ∧ B' 98 1 ≤ 200) ∧ wf e ∧ ln e ≤ 200 ∧ bkd e ≤ 10
section CRD8
variable {h1 : qH} {d : Nat} {Q : qO → qB → Prop} {B : qB}
theorem R_read {a1 : Nat} (hd : 60 ≤ d) (hS : SH B) (ha : ob 1 a1) (hb : bOK B a1) (hw : WtI B) (hK : CKB B)
    (kG : ∀ e gr, sParse (sgS B a1) = .ok (e, gr) → ∀ B', SH B' → (∀ b x, b < 90 ∨ 100 < b → B' b x = B b x) → WtI B' → B' 100 5 = gr → (0 ≤ gr ∧ gr ≤ 9) → RdT (sgS B a1) B' e → Q (.inl (some (iv (-1)))) B')
    (kB : ∀ w, sParse (sgS B a1) = .error w → ∀ B', SH B' → (∀ b x, b < 90 ∨ 100 < b → B' b x = B b x) → WtI B' → w ≠ -1 → (-1 ≤ w ∧ w ≤ 5000) → Q (.inl (some (iv w))) B') : qY h1 d n_Re_read 0 [some (.ref 100), some (.ref a1)] [] B Q := by
  obtain ⟨d, rfl, he⟩ := d_pos hd
  have hs := src_lt ha
  have hsl : ∀ i, 0 ≤ sgS B a1 i → i < 200 := fun i hi => sgS_lt hi
  refine c_Re_read_0_ok (by omega) hS ha ?_
  unfold c_Re_read_0
  have fr : ∀ b x, b < 90 ∨ 100 < b → (u2 (u2 (u2 (u2 (u2 (u2 (u2 (u2 B 100 1 ((a1 : Nat) : Int)) 90 8 1) 98 1 0) 100 2 0) 100 3 (-1)) 100 5 0) 100 6 0) 100 7 0) b x = B b x := fun b x q => by
    rw [u2_bank (by omega), u2_bank (by omega), u2_bank (by omega), u2_bank (by omega), u2_bank (by omega), u2_bank (by omega), u2_bank (by omega), u2_bank (by omega)]
  have f97 : ∀ x, (u2 (u2 (u2 (u2 (u2 (u2 (u2 (u2 B 100 1 ((a1 : Nat) : Int)) 90 8 1) 98 1 0) 100 2 0) 100 3 (-1)) 100 5 0) 100 6 0) 100 7 0) 97 x = B 97 x := fun x => by
    rw [u2_bank (by decide), u2_bank (by decide), u2_bank (by decide), u2_bank (by decide), u2_bank (by decide), u2_bank (by decide), u2_bank (by decide), u2_bank (by decide)]
  have e1 : (u2 (u2 (u2 (u2 (u2 (u2 (u2 (u2 B 100 1 ((a1 : Nat) : Int)) 90 8 1) 98 1 0) 100 2 0) 100 3 (-1)) 100 5 0) 100 6 0) 100 7 0) 100 1 = ((a1 : Nat) : Int) := by
    rw [u2_idx (by decide), u2_idx (by decide), u2_idx (by decide), u2_idx (by decide), u2_idx (by decide), u2_bank (by decide), u2_bank (by decide), u2_same]
  have e90 : (u2 (u2 (u2 (u2 (u2 (u2 (u2 (u2 B 100 1 ((a1 : Nat) : Int)) 90 8 1) 98 1 0) 100 2 0) 100 3 (-1)) 100 5 0) 100 6 0) 100 7 0) 90 8 = 1 := by
    rw [u2_bank (by decide), u2_bank (by decide), u2_bank (by decide), u2_bank (by decide), u2_bank (by decide), u2_bank (by decide), u2_same]
  have e98 : (u2 (u2 (u2 (u2 (u2 (u2 (u2 (u2 B 100 1 ((a1 : Nat) : Int)) 90 8 1) 98 1 0) 100 2 0) 100 3 (-1)) 100 5 0) 100 6 0) 100 7 0) 98 1 = 0 := by
    rw [u2_bank (by decide), u2_bank (by decide), u2_bank (by decide), u2_bank (by decide), u2_bank (by decide), u2_same]
  have e2 : (u2 (u2 (u2 (u2 (u2 (u2 (u2 (u2 B 100 1 ((a1 : Nat) : Int)) 90 8 1) 98 1 0) 100 2 0) 100 3 (-1)) 100 5 0) 100 6 0) 100 7 0) 100 2 = 0 := by
    rw [u2_idx (by decide), u2_idx (by decide), u2_idx (by decide), u2_idx (by decide), u2_same]
  have e3 : (u2 (u2 (u2 (u2 (u2 (u2 (u2 (u2 B 100 1 ((a1 : Nat) : Int)) 90 8 1) 98 1 0) 100 2 0) 100 3 (-1)) 100 5 0) 100 6 0) 100 7 0) 100 3 = -1 := by
    rw [u2_idx (by decide), u2_idx (by decide), u2_idx (by decide), u2_same]
  have e5 : (u2 (u2 (u2 (u2 (u2 (u2 (u2 (u2 B 100 1 ((a1 : Nat) : Int)) 90 8 1) 98 1 0) 100 2 0) 100 3 (-1)) 100 5 0) 100 6 0) 100 7 0) 100 5 = 0 := by
    rw [u2_idx (by decide), u2_idx (by decide), u2_same]
  have e6 : (u2 (u2 (u2 (u2 (u2 (u2 (u2 (u2 B 100 1 ((a1 : Nat) : Int)) 90 8 1) 98 1 0) 100 2 0) 100 3 (-1)) 100 5 0) 100 6 0) 100 7 0) 100 6 = 0 := by
    rw [u2_idx (by decide), u2_same]
  have e7 : (u2 (u2 (u2 (u2 (u2 (u2 (u2 (u2 B 100 1 ((a1 : Nat) : Int)) 90 8 1) 98 1 0) 100 2 0) 100 3 (-1)) 100 5 0) 100 6 0) 100 7 0) 100 7 = 0 := u2_same
  have hS2 : SH (u2 (u2 (u2 (u2 (u2 (u2 (u2 (u2 B 100 1 ((a1 : Nat) : Int)) 90 8 1) 98 1 0) 100 2 0) 100 3 (-1)) 100 5 0) 100 6 0) 100 7 0) := SH_u2 (SH_u2 (SH_u2 (SH_u2 (SH_u2 (SH_u2 (SH_u2 (SH_u2 hS (by decide)) (by decide)) (by decide)) (by decide)) (by decide)) (by decide)) (by decide)) (by decide)
  generalize u2 (u2 (u2 (u2 (u2 (u2 (u2 (u2 B 100 1 ((a1 : Nat) : Int)) 90 8 1) 98 1 0) 100 2 0) 100 3 (-1)) 100 5 0) 100 6 0) 100 7 0 = B2 at fr f97 e1 e90 e98 e2 e3 e5 e6 e7 hS2
  have en : (B2 100 1).toNat = a1 := by rw [e1]; exact Int.toNat_natCast a1
  have eb : ∀ x, B2 a1 x = B a1 x := fun x => fr a1 x (Or.inl hs.1)
  have eb1 : ∀ x, B2 (a1 + 1) x = B (a1 + 1) x := fun x => fr (a1 + 1) x (Or.inl hs.2)
  have hsg : ∀ p, sgC B2 p = sgS B a1 p := fun p => by
    rw [sgC_S, en]
    unfold sgS byA
    simp only [eb, eb1]
  have R2 : RS (sgS B a1) B2 B2 := ⟨hS2, ⟨by rw [en]; exact ha, by rw [en]; unfold bOK; rw [eb]; exact hb, by omega, by omega⟩, hsg, fun _ _ _ => rfl, rfl, by omega, by omega, fun x x0 x1 => by rw [f97]; exact hw x x0 x1, by omega, by omega, by omega, by omega⟩
  have hK2 : CKB B2 := fun j hj => by rw [fr 1000000000 _ (by omega)]; exact hK j hj
  have sp := WyAll (h1 := h1) (sg := sgS B a1) hK2 10 0 d (by omega) (by omega) B2 (fun o B' => ∃ v : Int, o = .inl (some (iv v)) ∧ SH B' ∧ c_Re_read_43 h1 d v B' Q) 1 0 [] ⟨R2, e3, by omega, by omega⟩ rfl
  rw [e2, e5, e6] at sp
  refine sp (fun B3 v wy rw hWO hgo hend => ⟨v, rfl, hWO.1.1.1, ?_⟩) (fun B3 v w hBP v0 v1 hbad => ⟨v, rfl, hBP.1.1, ?_⟩)
  · obtain ⟨⟨p1, p2, p3, p4, p5, p6, p7, p8, p9, p10, p11⟩, hv13, hNd, hvN, hvw, hvk, hvwf, hvx⟩ := hWO
    have R4 : RS (sgS B a1) B2 (u2 B3 100 4 v) := RS_f p1 (by omega) (fun w => absurd w (by decide)) (fun w => absurd w (by decide)) (fun w => absurd w (by decide)) (fun w => absurd w (by decide)) (fun w => absurd w (by decide))
    have g2 : (u2 B3 100 4 v) 100 2 = B3 100 2 := u2_idx (by decide)
    have g3 : (u2 B3 100 4 v) 100 3 = -1 := by rw [u2_idx (by decide)]; exact p2
    have A3 := p1.2.1.2.2.1
    unfold c_Re_read_43
    rw [R4.2.2.1, Int.add_zero, g2]
    refine ⟨R4.2.1, R4.R _, fun q => ?_, fun q => ⟨R4.R3, ?_⟩⟩
    · rw [p2]
      have hp : sParse (sgS B a1) = .ok (clo wy rw, B3 100 5) := by rw [parse_end hsl hgo q]; rfl
      have cI0 := cfI_go hgo ⟨⟨⟨⟨by decide, by decide⟩, by decide⟩, trivial, fun w => absurd w (by decide), trivial⟩, ⟨by decide, by decide⟩, by show (0 : Int) + 0 + 0 ≤ 0; decide, by decide⟩
      have g5 : (u2 B3 100 4 v) 100 5 = B3 100 5 := u2_idx (by decide)
      have g4 : (u2 B3 100 4 v) 100 4 = v := u2_same
      have gb : ∀ b x, b ≠ 100 → (u2 B3 100 4 v) b x = B3 b x := fun b x hb => u2_bank hb
      refine kG _ _ hp _ R4.1 (fun b x q => (R4.2.2.2.1 b x q).trans (fr b x q)) R4.2.2.2.2.2.2.2.1 g5 p1.2.2.2.2.2.2.2.2.2.2.1 ⟨fun s hs => by rw [g4, gb 93 v (by decide), gb 93 (B3 93 v) (by decide), gb 91 _ (by decide), ← e2]; exact hvx s hs, ?_, ?_, ?_, R4.2.2.2.2.2.1.2, ?_, hvwf, ?_, ?_⟩
      · rw [g4, gb 90 8 (by decide)]
        exact ⟨hv13.1, hv13.2.1, by rw [gb 91 v (by decide)]; exact hv13.2.2⟩
      · rw [g4, gb 98 1 (by decide), gb 93 v (by decide)]
        exact Nd_fr (fun x _ _ => gb 99 x (by decide)) (Int.le_refl _) _ _ _ _ _ hNd (fun b x b0 b1 x0 x1 => gb b x (by omega)) (Int.le_refl _)
      · rw [g4, gb 97 v (by decide)]; exact hvw
      · have := R4.2.2.2.2.2.2.1
        rw [g2] at this
        omega
      · obtain ⟨j1, j2, j3, j4⟩ := cI0
        obtain ⟨m1, m2, m3, m4⟩ := j1
        have := (clo_I m1 m2).2
        have j3 : lnO wy + ln rw + 0 ≤ B3 100 2 := j3
        omega
      · obtain ⟨j1, j2, j3, j4⟩ := cI0
        obtain ⟨m1, m2, m3, m4⟩ := j1
        exact (clo_I m1 m2).1.2
    · have q41 : sgS B a1 (B3 100 2) = 41 := hend.resolve_left q
      have hp : sParse (sgS B a1) = .error (B3 100 2) := by
        refine parse_err hsl ⟨_, hgo, by show sgS B a1 (B3 100 2) ≠ -1; omega, ?_⟩
        show (if sgS B a1 (B3 100 2) = 124 then _ else if sgS B a1 (B3 100 2) = 40 then _ else if sgS B a1 (B3 100 2) = 41 then _ else _) = _
        rw [if_neg (by omega), if_neg (by omega), if_pos q41]
        rfl
      have e9 : brC (u2 B3 100 4 v) (B3 100 2) 100 3 = B3 100 2 := by rw [brC_3, if_pos g3]
      have R5 := RS_br (z := B3 100 2) R4 (by omega) (by omega)
      rw [e9]
      exact kB _ hp _ R5.1 (fun b x q => (R5.2.2.2.1 b x q).trans (fr b x q)) R5.2.2.2.2.2.2.2.1 (by omega) (by omega)
  · obtain ⟨q1, q2, q3, q4, q5⟩ := hBP
    have hp := parse_bad hsl hbad
    have R4 : RS (sgS B a1) B2 (u2 B3 100 4 v) := RS_f q1 (by omega) (fun w => absurd w (by decide)) (fun w => absurd w (by decide)) (fun w => absurd w (by decide)) (fun w => absurd w (by decide)) (fun w => absurd w (by decide))
    have g3 : (u2 B3 100 4 v) 100 3 = w := by rw [u2_idx (by decide)]; exact q2
    have A3 := q1.2.1.2.2.1
    have T3 := q1.2.2.2.2.2.2.2.2.1
    have gg : B3 100 2 ≤ 300 := by have : B3 100 2 ≤ 300 - 2 * ((0 : Nat) : Int) := q5; omega
    unfold c_Re_read_43
    refine ⟨R4.2.1, sgC_R _ _, fun q => ?_, fun q => ⟨R4.R3, ?_⟩⟩
    · rw [q2]
      exact kB _ hp _ R4.1 (fun b x q => (R4.2.2.2.1 b x q).trans (fr b x q)) R4.2.2.2.2.2.2.2.1 q3 (by omega)
    · have R5 := RS_br (z := B3 100 2) R4 (by omega) (by omega)
      have e9 : brC (u2 B3 100 4 v) (B3 100 2) 100 3 = w := by rw [brC_3, if_neg (by omega)]; exact g3
      rw [e9]
      exact kB _ hp _ R5.1 (fun b x q => (R5.2.2.2.1 b x q).trans (fr b x q)) R5.2.2.2.2.2.2.2.1 q3 (by omega)
end CRD8
