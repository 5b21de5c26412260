/-! THE CLASS'S READER: numbers and rounds -/
section CRD4
variable {h1 : qH} {d : Nat} {Q : qO → qB → Prop} {sg : Int → Int} {B0 B : qB}
theorem u2_uu {C : qB} {b : Nat} {x y z : Int} : u2 (u2 C b x y) b x z = u2 C b x z := by
  funext b' x'
  by_cases hb : b' = b
  · subst hb
    by_cases hx : x' = x
    · subst hx; rw [u2_same, u2_same]
    · rw [u2_idx hx, u2_idx hx, u2_idx hx]
  · rw [u2_bank hb, u2_bank hb, u2_bank hb]
theorem sNum_bdd : ∀ (f : Nat) (a v : Int), 0 ≤ v → v ≤ 21 → RS sg B0 B → a ≤ 200 → 0 ≤ (sNum sg f a v).1 ∧ (sNum sg f a v).1 ≤ 21 ∧ a ≤ (sNum sg f a v).2 ∧ (sNum sg f a v).2 ≤ 200 := by
  intro f
  induction f with
  | zero => intro a v v0 v1 hR ha; exact ⟨v0, v1, Int.le_refl _, ha⟩
  | succ f ih =>
    intro a v v0 v1 hR ha
    unfold sNum
    by_cases hg : isDg (sg a) = true
    · rw [if_pos hg]
      have g := hg
      unfold isDg at g
      simp only [Bool.and_eq_true, decide_eq_true_eq] at g
      have l := (hR.lt (i := a) (by omega)).1
      have := ih (a + 1) (min (10 * v + (sg a - 48)) 21) (by omega) (by omega) hR (by omega)
      omega
    · rw [if_neg hg]
      exact ⟨v0, v1, Int.le_refl _, ha⟩
theorem isDg_i {x : Int} : isDg x = true ↔ (48 ≤ x ∧ x ≤ 57) := by
  unfold isDg
  simp only [Bool.and_eq_true, decide_eq_true_eq]
/-- the digits of a number -/
theorem L_number {x1 x2 : Int} (hd : 2 ≤ d) : ∀ (n : Nat) (a v k : Int) (f : Nat) (B : qB), RS sg B0 B → B 100 2 = a → 200 ≤ a + n → a ≤ 200 → 0 ≤ k → k + n ≤ 200 → n ≤ f → 0 < v → v ≤ 21 → c_Re_readNumber_106 h1 d x1 x2 (sNum sg f a v).1 (u2 B 100 2 (sNum sg f a v).2) Q → qY h1 (d + 1) n_Re_readNumber 48 [some (.ref 100), some (iv x1), some (iv x2), some (iv v), some (iv k)] [] B Q := by
  intro n
  induction n with
  | zero =>
    intro a v k f B h ha hn a1 k0 hk hf v0 v1 w
    have hg : isDg (sg a) = false := by
      rw [← Bool.not_eq_true]
      intro hg
      have g := isDg_i.mp hg
      have := (h.lt (i := a) (by omega)).1
      omega
    have hs : sNum sg f a v = (v, a) := by
      cases f with
      | zero => rfl
      | succ f => unfold sNum; rw [if_neg (by rw [hg]; decide)]
    rw [hs] at w
    have hB : u2 B 100 2 a = B := by
      funext b x
      by_cases hb : b = 100
      · subst hb
        by_cases hx : x = 2
        · subst hx; rw [u2_same, ha]
        · rw [u2_idx hx]
      · rw [u2_bank hb]
    rw [hB] at w
    refine c_Re_readNumber_48_ok hd h.1 ?_
    unfold c_Re_readNumber_48
    rw [h.2.2.1, Int.add_zero, ha, hg]
    exact ⟨⟨by omega, by omega⟩, fun _ => w, fun _ => ⟨⟨by omega, by omega⟩, fun _ => w, fun _ => ⟨h.2.1, h.R _, fun _ => w, fun q => absurd rfl q⟩⟩⟩
  | succ n ih =>
    intro a v k f B h ha hn a1 k0 hk hf v0 v1 w
    obtain ⟨f, rfl⟩ : ∃ g, f = g + 1 := ⟨f - 1, by omega⟩
    refine c_Re_readNumber_48_ok hd h.1 ?_
    unfold c_Re_readNumber_48
    rw [h.2.2.1, Int.add_zero, ha]
    cases hg : isDg (sg a) with
    | true =>
      have g := isDg_i.mp hg
      have l := (h.lt (i := a) (by omega)).1
      have un : sNum sg (f + 1) a v = sNum sg f (a + 1) (min (10 * v + (sg a - 48)) 21) := by
        show (if isDg (sg a) = true then _ else _) = _
        rw [if_pos hg]
      rw [un] at w
      refine ⟨⟨by omega, by omega⟩, fun q => absurd q (by omega), fun _ => ⟨⟨by omega, by omega⟩, fun q => absurd q (by omega), fun _ => ⟨h.2.1, h.R _, fun q => absurd q (by decide), fun _ => ⟨⟨by omega, by omega⟩, ?_⟩⟩⟩⟩
      rw [show min (v * 10 + sg a - 48) 21 = min (10 * v + (sg a - 48)) 21 by omega]
      refine ih (a + 1) _ (k + 1) f _ (RS_at h (by omega) (by omega)) u2_same (by omega) (by omega) (by omega) (by omega) (by omega) (by omega) (by omega) ?_
      rw [u2_uu]
      exact w
    | false =>
      have hs : sNum sg (f + 1) a v = (v, a) := by unfold sNum; rw [if_neg (by rw [hg]; decide)]
      rw [hs] at w
      have hB : u2 B 100 2 a = B := by
        funext b x
        by_cases hb : b = 100
        · subst hb
          by_cases hx : x = 2
          · subst hx; rw [u2_same, ha]
          · rw [u2_idx hx]
        · rw [u2_bank hb]
      rw [hB] at w
      exact ⟨⟨by omega, by omega⟩, fun _ => w, fun _ => ⟨⟨by omega, by omega⟩, fun _ => w, fun _ => ⟨h.2.1, h.R _, fun _ => w, fun q => absurd rfl q⟩⟩⟩
/-- a number: its value, where it ends -/
def nmV (sg : Int → Int) (a : Int) : Int × Int := if sg a = 48 then (0, a + 1) else sNum sg 200 a 0
theorem nmV_bd {a : Int} (h : RS sg B0 B) (hg : isDg (sg a) = true) : 0 ≤ (nmV sg a).1 ∧ (nmV sg a).1 ≤ 21 ∧ a < (nmV sg a).2 ∧ (nmV sg a).2 ≤ 200 := by
  have g := isDg_i.mp hg
  have l := (h.lt (i := a) (by omega)).1
  unfold nmV
  split
  · exact ⟨by show (0 : Int) ≤ 0; decide, by show (0 : Int) ≤ 21; decide, by show a < a + 1; omega, by show a + 1 ≤ 200; omega⟩
  · have un : sNum sg 200 a 0 = sNum sg 199 (a + 1) (min (10 * 0 + (sg a - 48)) 21) := by
      show (if isDg (sg a) = true then _ else _) = _
      rw [if_pos hg]
    rw [un]
    have := sNum_bdd (sg := sg) 199 (a + 1) (min (10 * 0 + (sg a - 48)) 21) (by omega) (by omega) h (by omega)
    omega
theorem R_readNumber {x1 : Int} (hd : 3 ≤ d) (h : RS sg B0 B) (hx : 0 ≤ x1 ∧ x1 ≤ 21) (A0 : B 100 2 ≤ 4500)
    (k1 : isDg (sg (B 100 2)) = true → Q (.inl (some (iv (nmV sg (B 100 2)).1))) (if 20 < (nmV sg (B 100 2)).1 ∨ (nmV sg (B 100 2)).1 < x1 then brC (u2 B 100 2 (nmV sg (B 100 2)).2) (B 100 2) else u2 B 100 2 (nmV sg (B 100 2)).2))
    (k2 : isDg (sg (B 100 2)) = false → Q (.inl (some (iv 0))) (brC B (B 100 2))) : qY h1 d n_Re_readNumber 0 [some (.ref 100), some (iv x1), none, none, none] [] B Q := by
  obtain ⟨d, rfl, he⟩ := d_pos hd
  have A1 := h.2.1.2.2.1
  refine y_wk (c_Re_readNumber_0_ok he h.1 ?_) ⟨rfl, rfl, trivial⟩
  unfold c_Re_readNumber_0
  rw [h.2.2.1, Int.add_zero]
  cases hg : isDg (sg (B 100 2)) with
  | false => exact ⟨h.2.1, h.R _, fun q => absurd rfl q, fun _ => ⟨h.R3, k2 hg⟩⟩
  | true =>
    have g := isDg_i.mp hg
    have l := (h.lt (i := B 100 2) (by omega)).1
    have bd := nmV_bd h hg
    have w := k1 hg
    refine ⟨h.2.1, h.R _, fun _ => ?_, fun q => absurd q (by decide)⟩
    have R2 := RS_at (z := (nmV sg (B 100 2)).2) h (by omega) (by omega)
    have k106 : c_Re_readNumber_106 h1 d x1 (B 100 2) (nmV sg (B 100 2)).1 (u2 B 100 2 (nmV sg (B 100 2)).2) Q := by
      refine ⟨⟨by omega, by omega⟩, fun q => ⟨R2.R3, ?_⟩, fun q => ⟨⟨by omega, by omega⟩, fun q2 => ?_, fun q2 => ⟨R2.R3, ?_⟩⟩⟩
      · rw [if_pos (Or.inl q)] at w; exact w
      · rw [if_neg (by omega)] at w; exact w
      · rw [if_pos (Or.inr q2)] at w; exact w
    have R1 := RS_at (z := B 100 2 + 1) h (by omega) (by omega)
    by_cases h48 : sg (B 100 2) = 48
    · have e : nmV sg (B 100 2) = (0, B 100 2 + 1) := by unfold nmV; rw [if_pos h48]
      rw [e] at k106
      refine c_Re_readNumber_48_ok he R1.1 ⟨⟨by decide, by decide⟩, fun q => absurd q (by decide), fun _ => ⟨⟨by omega, by omega⟩, fun _ => ?_, fun q => absurd q (by omega)⟩⟩
      rw [show sg (B 100 2) - 48 = 0 by omega]
      exact k106
    · have e : nmV sg (B 100 2) = sNum sg 199 (B 100 2 + 1) (sg (B 100 2) - 48) := by
        unfold nmV
        rw [if_neg h48]
        show (if isDg (sg (B 100 2)) = true then _ else _) = _
        rw [if_pos hg, show min (10 * 0 + (sg (B 100 2) - 48)) 21 = sg (B 100 2) - 48 by omega]
      rw [e] at k106
      refine L_number he (200 - (B 100 2 + 1)).toNat (B 100 2 + 1) _ 0 199 _ R1 u2_same (by omega) (by omega) (by omega) (by omega) (by omega) (by omega) (by omega) ?_
      rw [u2_uu]
      exact k106
theorem sNm_i {a : Int} : sNm sg a = if isDg (sg a) = true then (if 20 < (nmV sg a).1 then .error a else .ok (nmV sg a)) else .error a := by
  unfold sNm nmV
  by_cases hg : isDg (sg a) = true
  · rw [if_pos hg, if_pos hg]
    by_cases h48 : sg a = 48
    · rw [if_pos h48, if_pos h48, if_neg (show ¬ (20 : Int) < 0 by decide)]
    · rw [if_neg h48, if_neg h48]
  · rw [if_neg hg, if_neg hg]
/-- what stands behind the first number: place, most -/
def sMo (sg : Int → Int) (l a : Int) : Except Int (Int × Int) := if sg a = 44 then (if sg (a + 1) = 125 then .ok (-1, a + 2) else match sNm sg (a + 1) with
    | .error w => .error w
    | .ok (h, b) => if h < l then .error (a + 1) else if sg b = 125 then .ok (h, b + 1) else .error b) else if sg a = 125 then .ok (l, a + 1) else .error a
/-- the state behind a number, a most -/
def NB (sg : Int → Int) (B0 B B' : qB) (r : Except Int Int) : Prop := RS sg B0 B' ∧ B' 100 2 ≤ max (B 100 2 + 2) 202 ∧ B 100 2 ≤ B' 100 2 ∧ (∀ b x, ¬ (b = 100 ∧ (x = 2 ∨ x = 3)) → B' b x = B b x) ∧ (B 100 3 ≠ -1 → B' 100 3 = B 100 3) ∧ (B 100 3 = -1 → match r with
    | .error w => B' 100 3 = w
    | .ok a => B' 100 3 = -1 ∧ B' 100 2 = a)
theorem R_readMost {x1 : Int} (hd : 4 ≤ d) (h : RS sg B0 B) (hx : 0 ≤ x1 ∧ x1 ≤ 21) (A0 : B 100 2 ≤ 4000) (k : ∀ v B', NB sg B0 B B' ((sMo sg x1 (B 100 2)).map (fun q => q.2)) → (-1 ≤ v ∧ v ≤ 21) → (∀ m a, sMo sg x1 (B 100 2) = .ok (m, a) → v = m) → Q (.inl (some (iv v))) B') : qY h1 d n_Re_readMost 0 [some (.ref 100), some (iv x1), none] [] B Q := by
  obtain ⟨d, rfl, he⟩ := d_pos hd
  have A1 := h.2.1.2.2.1
  have T3 := h.2.2.2.2.2.2.2.2.1
  refine y_wk (c_Re_readMost_0_ok (by omega) h.1 ?_) ⟨rfl, rfl, trivial⟩
  unfold c_Re_readMost_0
  have R1 := RS_at (z := B 100 2 + 1) h (by omega) (by omega)
  have a1 : (u2 B 100 2 (B 100 2 + 1)) 100 2 = B 100 2 + 1 := u2_same
  rw [h.2.2.1, Int.add_zero, R1.2.2.1, a1, Int.add_zero]
  -- behind the number
  have k42 : ∀ (v : Int) (B1 : qB), RS sg B0 B1 → B1 100 2 ≤ 4001 → (∀ B', RS sg B0 B' → B' 100 2 = B1 100 2 + 1 → (∀ b x, ¬ (b = 100 ∧ (x = 2 ∨ x = 3)) → B' b x = B1 b x) → (B1 100 3 ≠ -1 → B' 100 3 = B1 100 3) → (B1 100 3 = -1 → B' 100 3 = if sg (B1 100 2) = 125 then -1 else B1 100 2) → Q (.inl (some (iv v))) B') → c_Re_readMost_42 h1 d v B1 Q := by
    intro v B1 g1 g2 k
    have g3 := g1.2.1.2.2.1
    unfold c_Re_readMost_42
    rw [g1.2.2.1, Int.add_zero]
    refine ⟨g1.2.1, g1.R _, fun q => ?_, fun q => ⟨g1.R3, ?_⟩⟩
    · refine k _ (RS_at g1 (by omega) (by omega)) u2_same (fun b x q => ?_) (fun _ => u2_idx (by decide)) (fun w => by rw [u2_idx (by decide), if_pos q]; exact w)
      by_cases hb : b = 100
      · subst hb; exact u2_idx (by omega)
      · exact u2_bank hb
    · have g4 := RS_br (z := B1 100 2) g1 (by omega) (by omega)
      have e2 : brC B1 (B1 100 2) 100 2 = B1 100 2 := brC_at _ _ _ (by decide)
      unfold c_Re_readMost_60
      rw [e2]
      refine k _ (RS_at g4 (by omega) (by omega)) u2_same (fun b x q => ?_) (fun w => by rw [u2_idx (by decide), brC_3, if_neg w]) (fun w => by rw [u2_idx (by decide), brC_3, if_pos w, if_neg q])
      by_cases hb : b = 100
      · subst hb; rw [u2_idx (by omega), brC_at _ _ _ (by omega)]
      · rw [u2_bank hb, brC_b _ _ _ _ hb]
  unfold sMo at k
  refine ⟨h.2.1, h.R _, fun q => ?_, fun q => ⟨R1.2.1, h.R _, fun q2 => ?_, fun q2 => ?_⟩⟩
  · rw [if_neg q] at k
    refine k42 x1 B h (by omega) (fun B' g1 g2 g3 g4 g5 => k x1 B' ⟨g1, by omega, by omega, g3, g4, fun w => ?_⟩ (by omega) (fun m a hm => ?_))
    · have := g5 w
      by_cases hq : sg (B 100 2) = 125
      · rw [if_pos hq] at this ⊢; exact ⟨this, g2⟩
      · rw [if_neg hq] at this ⊢; exact this
    · by_cases hq : sg (B 100 2) = 125
      · rw [if_pos hq] at hm; cases hm; rfl
      · rw [if_neg hq] at hm; cases hm
  · rw [if_pos q, if_neg q2] at k
    have b3 : (u2 B 100 2 (B 100 2 + 1)) 100 3 = B 100 3 := u2_idx (by decide)
    have fr1 : ∀ b x, ¬ (b = 100 ∧ (x = 2 ∨ x = 3)) → (u2 B 100 2 (B 100 2 + 1)) b x = B b x := fun b x q => by
      by_cases hb : b = 100
      · subst hb; exact u2_idx (by omega)
      · exact u2_bank hb
    rw [sNm_i] at k
    refine R_readNumber (by omega) R1 hx (by omega) (fun hg => ⟨_, rfl, ?_⟩) (fun hg => ⟨_, rfl, ?_⟩)
    · rw [a1] at hg ⊢
      rw [if_pos hg] at k
      have bd := nmV_bd h hg
      generalize nmV sg (B 100 2 + 1) = nv at k bd
      obtain ⟨v, a'⟩ := nv
      have bd : 0 ≤ v ∧ v ≤ 21 ∧ B 100 2 + 1 < a' ∧ a' ≤ 200 := bd
      have R2 := RS_at (z := a') h (by omega) (by omega)
      rw [u2_uu]
      have fr2 : ∀ b x, ¬ (b = 100 ∧ (x = 2 ∨ x = 3)) → (u2 B 100 2 a') b x = B b x := fun b x q => by
        by_cases hb : b = 100
        · subst hb; exact u2_idx (by omega)
        · exact u2_bank hb
      by_cases hv : 20 < v ∨ v < x1
      · rw [show (if 20 < (v, a').1 ∨ (v, a').1 < x1 then brC (u2 B 100 2 (v, a').2) (B 100 2 + 1) else u2 B 100 2 (v, a').2) = brC (u2 B 100 2 a') (B 100 2 + 1) from if_pos hv]
        have R3 := RS_br (z := B 100 2 + 1) R2 (by omega) (by omega)
        have e2 : brC (u2 B 100 2 a') (B 100 2 + 1) 100 2 = a' := by rw [brC_at _ _ _ (by decide), u2_same]
        refine ⟨R3.1, k42 v _ R3 (by omega) (fun B' g1 g2 g3 g4 g5 => k v B' ⟨g1, by omega, by omega, fun b x q => ?_, fun w => ?_, fun w => ?_⟩ (by omega) (fun m a hm => ?_))⟩
        · by_cases hb : b = 100
          · subst hb; rw [g3 100 x q, brC_at _ _ _ (by omega)]; exact fr2 100 x q
          · rw [g3 b x q, brC_b _ _ _ _ hb]; exact fr2 b x q
        · have e3 : brC (u2 B 100 2 a') (B 100 2 + 1) 100 3 = B 100 3 := by rw [brC_3, u2_idx (by decide), if_neg w]
          rw [g4 (by rw [e3]; exact w), e3]
        · have e3 : brC (u2 B 100 2 a') (B 100 2 + 1) 100 3 = B 100 2 + 1 := by rw [brC_3, u2_idx (by decide), if_pos w]
          have := g4 (by rw [e3]; omega)
          by_cases hv2 : 20 < v
          · rw [if_pos hv2]; show B' 100 3 = _; omega
          · rw [if_neg hv2]
            show (match Except.map (fun q : Int × Int => q.2) (if v < x1 then Except.error (B 100 2 + 1) else _) with | .error w => B' 100 3 = w | .ok a => _)
            rw [if_pos (by omega)]; show B' 100 3 = _; omega
        · by_cases hv2 : 20 < v
          · rw [if_pos hv2] at hm; cases hm
          · rw [if_neg hv2] at hm
            have hm : (if v < x1 then Except.error (B 100 2 + 1) else if sg a' = 125 then Except.ok (v, a' + 1) else Except.error a') = Except.ok (m, a) := hm
            rw [if_pos (by omega)] at hm; cases hm
      · rw [show (if 20 < (v, a').1 ∨ (v, a').1 < x1 then brC (u2 B 100 2 (v, a').2) (B 100 2 + 1) else u2 B 100 2 (v, a').2) = u2 B 100 2 a' from if_neg hv]
        have e2 : (u2 B 100 2 a') 100 2 = a' := u2_same
        have e3 : (u2 B 100 2 a') 100 3 = B 100 3 := u2_idx (by decide)
        refine ⟨R2.1, k42 v _ R2 (by omega) (fun B' g1 g2 g3 g4 g5 => k v B' ⟨g1, by omega, by omega, fun b x q => (g3 b x q).trans (fr2 b x q), fun w => ?_, fun w => ?_⟩ (by omega) (fun m a hm => ?_))⟩
        · rw [g4 (by rw [e3]; exact w), e3]
        · have := g5 (by rw [e3]; exact w)
          rw [e2] at this g2
          rw [if_neg (by omega)]
          show (match Except.map (fun q : Int × Int => q.2) (if v < x1 then Except.error (B 100 2 + 1) else if sg a' = 125 then Except.ok (v, a' + 1) else Except.error a') with | .error w => B' 100 3 = w | .ok a => _)
          rw [if_neg (by omega)]
          by_cases hq : sg a' = 125
          · rw [if_pos hq] at this ⊢; exact ⟨this, g2⟩
          · rw [if_neg hq] at this ⊢; exact this
        · rw [if_neg (by omega)] at hm
          have hm : (if v < x1 then Except.error (B 100 2 + 1) else if sg a' = 125 then Except.ok (v, a' + 1) else Except.error a') = Except.ok (m, a) := hm
          rw [if_neg (by omega)] at hm
          by_cases hq : sg a' = 125
          · rw [if_pos hq] at hm; cases hm; rfl
          · rw [if_neg hq] at hm; cases hm
    · rw [a1] at hg ⊢
      rw [if_neg (by rw [hg]; decide)] at k
      have R3 := RS_br (z := B 100 2 + 1) R1 (by omega) (by omega)
      have e2 : brC (u2 B 100 2 (B 100 2 + 1)) (B 100 2 + 1) 100 2 = B 100 2 + 1 := by rw [brC_at _ _ _ (by decide), u2_same]
      refine ⟨R3.1, k42 0 _ R3 (by omega) (fun B' g1 g2 g3 g4 g5 => k 0 B' ⟨g1, by omega, by omega, fun b x q => ?_, fun w => ?_, fun w => ?_⟩ (by omega) (fun m a hm => ?_))⟩
      · by_cases hb : b = 100
        · subst hb; rw [g3 100 x q, brC_at _ _ _ (by omega)]; exact fr1 100 x q
        · rw [g3 b x q, brC_b _ _ _ _ hb]; exact fr1 b x q
      · have e3 : brC (u2 B 100 2 (B 100 2 + 1)) (B 100 2 + 1) 100 3 = B 100 3 := by rw [brC_3, b3, if_neg w]
        rw [g4 (by rw [e3]; exact w), e3]
      · have e3 : brC (u2 B 100 2 (B 100 2 + 1)) (B 100 2 + 1) 100 3 = B 100 2 + 1 := by rw [brC_3, b3, if_pos w]
        have := g4 (by rw [e3]; omega)
        show B' 100 3 = _
        omega
      · cases hm
  · rw [if_pos q, if_pos q2] at k
    have fr1 : ∀ b x, ¬ (b = 100 ∧ (x = 2 ∨ x = 3)) → (u2 B 100 2 (B 100 2 + 1)) b x = B b x := fun b x q => by
      by_cases hb : b = 100
      · subst hb; exact u2_idx (by omega)
      · exact u2_bank hb
    have b3 : (u2 B 100 2 (B 100 2 + 1)) 100 3 = B 100 3 := u2_idx (by decide)
    refine k42 (-1) _ R1 (by omega) (fun B' g1 g2 g3 g4 g5 => k (-1) B' ⟨g1, by omega, by omega, fun b x q => (g3 b x q).trans (fr1 b x q), fun w => by rw [g4 (by rw [b3]; exact w), b3], fun w => ?_⟩ (by omega) (fun m a hm => by cases hm; rfl))
    have := g5 (by rw [b3]; exact w)
    rw [a1, if_pos q2] at this
    exact ⟨this, by show B' 100 2 = B 100 2 + 2; omega⟩
end CRD4
