/-! THE REFERENCE'S CODE: what it must be for a tree -/
/-- how many instructions -/
def cl : qT → Int
  | .num k => if k = 0 then 0 else 1
  | .var _ => 1
  | .add a b => cl a + cl b
  | .sub a b => cl a + cl b + 2
  | .neg a => cl a
  | .mulL _ a => cl a + 2
  | .mulR a k => rl k * cl a + (if rh k < 0 then cl a + 4 else (rh k - rl k) * (cl a + 1)) + (if rg k = 2 then 2 else 0)
/-- how many splits and questions -/
def cs : qT → Int
  | .num _ => 0
  | .var _ => 0
  | .add a b => cs a + cs b
  | .sub a b => cs a + cs b + 1
  | .neg a => cs a
  | .mulL k a => cs a + (if 1 ≤ k then 0 else 1)
  | .mulR a k => rl k * cs a + (if rh k < 0 then cs a + 1 else (rh k - rl k) * (cs a + 1)) + (if rg k = 2 then 1 else 0)
/-- how many rounds without bound -/
def cm : qT → Int
  | .num _ => 0
  | .var _ => 0
  | .add a b => cm a + cm b
  | .sub a b => cm a + cm b
  | .neg a => cm a
  | .mulL _ a => cm a
  | .mulR a k => rl k * cm a + (if rh k < 0 then cm a + 1 else (rh k - rl k) * cm a)
/-- how high the heap of tasks grows -/
def th : qT → Int
  | .num _ => 1
  | .var _ => 1
  | .add a b => 1 + max (th a) (th b)
  | .sub a b => 1 + max (th a) (th b)
  | .neg a => 2 + th a
  | .mulL _ a => 1 + th a
  | .mulR a _ => 43 + th a
def ctxH : List Int → Int
  | [] => -1
  | m :: _ => m
def CH (B : qB) : List Int → Prop
  | [] => True
  | m :: r => 0 ≤ m ∧ m < 800 ∧ B 53 m = ctxH r ∧ CH B r
def SpA (B : qB) (S pc : Int) (ctx : List Int) : Prop := 0 ≤ B 45 pc ∧ B 45 pc < S ∧ B 52 (B 45 pc) = ctxH ctx ∧ B 54 (B 45 pc + 1) = B 54 (B 45 pc) + 1 + ctx.length
/-- rounds, P for a round's code of length c -/
def Rp (B : qB) (S K : Int) (P : Int → List Int → Int → Prop) (c q l h g a : Int) (ctx : List Int) (J : Int) : Prop := (∀ i, 0 ≤ i → i < l → P (a + i * c) ctx (J + i * q)) ∧ (if h < 0 then
    B 42 (a + l * c) = 1 ∧ SpA B S (a + l * c) ctx ∧ B 43 (a + l * c) = (if g = 1 then a + l * c + c + 4 else a + l * c + 1) ∧ B 44 (a + l * c) = (if g = 1 then a + l * c + 1 else a + l * c + c + 4) ∧ B 42 (a + l * c + 1) = 4 ∧ 0 ≤ B 43 (a + l * c + 1) ∧ B 43 (a + l * c + 1) < K ∧ (¬ B 43 (a + l * c + 1) ∈ ctx ∧ B 43 (a + l * c + 1) = J + l * q) ∧ B 53 (B 43 (a + l * c + 1)) = ctxH ctx ∧ P (a + l * c + 2) (B 43 (a + l * c + 1) :: ctx) (J + l * q + 1) ∧ B 42 (a + l * c + c + 2) = 5 ∧ B 43 (a + l * c + c + 2) = B 43 (a + l * c + 1) ∧ B 42 (a + l * c + c + 3) = 2 ∧ B 43 (a + l * c + c + 3) = a + l * c
  else ∀ j, 0 ≤ j → j < h - l → B 42 (a + l * c + j * (c + 1)) = 1 ∧ SpA B S (a + l * c + j * (c + 1)) ctx ∧ B 43 (a + l * c + j * (c + 1)) = (if g = 1 then a + l * c + (h - l) * (c + 1) else a + l * c + j * (c + 1) + 1) ∧ B 44 (a + l * c + j * (c + 1)) = (if g = 1 then a + l * c + j * (c + 1) + 1 else a + l * c + (h - l) * (c + 1)) ∧ P (a + l * c + j * (c + 1) + 1) ctx (J + l * q + j * q))
/-- J: the number of rounds without bound ahead of it -/
def Seg (B : qB) (S K : Int) : qT → Int → List Int → Int → Prop
  | .num j, a, _, _ => j = 0 ∨ B 42 a = 6 + j
  | .var st, a, _, _ => B 42 a = 0 ∧ 0 ≤ B 43 a ∧ B 43 a < 256 ∧ ∀ c, 0 ≤ c → c < 256 → hasB B (B 43 a) c = st.testBit c.toNat
  | .add u v, a, ctx, J => Seg B S K u a ctx J ∧ Seg B S K v (a + cl u) ctx (J + cm u)
  | .sub u v, a, ctx, J => B 42 a = 1 ∧ B 43 a = a + 1 ∧ B 44 a = a + cl u + 2 ∧ SpA B S a ctx ∧ Seg B S K u (a + 1) ctx J ∧ B 42 (a + cl u + 1) = 2 ∧ B 43 (a + cl u + 1) = a + cl u + cl v + 2 ∧ Seg B S K v (a + cl u + 2) ctx (J + cm u)
  | .neg u, a, ctx, J => Seg B S K u a ctx J
  | .mulL g u, a, ctx, J => if 1 ≤ g then B 42 a = 3 ∧ B 43 a = 2 * g ∧ Seg B S K u (a + 1) ctx J ∧ B 42 (a + cl u + 1) = 3 ∧ B 43 (a + cl u + 1) = 2 * g + 1
    else B 42 a = 6 ∧ B 43 a = (if g = 0 then 1 else 2) ∧ B 44 a = a + cl u + 2 ∧ SpA B S a ctx ∧ Seg B S K u (a + 1) [] J ∧ B 42 (a + cl u + 1) = 11
  | .mulR u k, a, ctx, J => if rg k = 2 then B 42 a = 6 ∧ B 43 a = 0 ∧ B 44 a = a + cl (.mulR u k) ∧ SpA B S a ctx ∧ Rp B S K (fun a c j => Seg B S K u a c j) (cl u) (cm u) (rl k) (rh k) 0 (a + 1) [] J ∧ B 42 (a + cl (.mulR u k) - 1) = 11
    else Rp B S K (fun a c j => Seg B S K u a c j) (cl u) (cm u) (rl k) (rh k) (rg k) a ctx J
theorem cl_nn : ∀ e : qT, wf e → 0 ≤ cl e ∧ 0 ≤ cs e ∧ 0 ≤ cm e := by
  intro e
  induction e with
  | num k => intro _; unfold cl cs cm; split <;> omega
  | var _ => intro _; unfold cl cs cm; omega
  | add a b h1 h2 => intro h; have := h1 h.1; have := h2 h.2; unfold cl cs cm; omega
  | sub a b h1 h2 => intro h; have := h1 h.1; have := h2 h.2; unfold cl cs cm; omega
  | neg a h1 => intro h; have := h1 h; unfold cl cs cm; omega
  | mulL k a h1 => intro h; have := h1 h.2.2; unfold cl cs cm; split <;> omega
  | mulR a k h1 =>
    intro h
    obtain ⟨g1, g2, g3, g4, g5, g6, g7⟩ := h
    obtain ⟨i1, i2, i3⟩ := h1 g7
    have a1 := Int.mul_nonneg g1 i1
    have a2 := Int.mul_nonneg g1 i2
    have a3 := Int.mul_nonneg g1 i3
    unfold cl cs cm
    by_cases hh : rh k < 0
    · simp only [if_pos hh]
      refine ⟨?_, ?_, ?_⟩ <;> (try split) <;> omega
    · simp only [if_neg hh]
      have b1 : 0 ≤ (rh k - rl k) * (cl a + 1) := Int.mul_nonneg (by omega) (by omega)
      have b2 : 0 ≤ (rh k - rl k) * (cs a + 1) := Int.mul_nonneg (by omega) (by omega)
      have b3 : 0 ≤ (rh k - rl k) * cm a := Int.mul_nonneg (by omega) (by omega)
      refine ⟨?_, ?_, ?_⟩ <;> (try split) <;> omega
/-- the weight bounds all of them -/
theorem cl_w : ∀ e : qT, wf e → wR e ≤ 400 → cl e ≤ 4 * wR e ∧ cs e ≤ wR e ∧ cm e ≤ wR e := by
  intro e
  induction e with
  | num k => intro _ _; unfold cl cs cm wR; split <;> omega
  | var _ => intro _ _; unfold cl cs cm wR; omega
  | add a b h1 h2 =>
    intro h hw
    have w1 := wR_bd a h.1
    have w2 := wR_bd b h.2
    have hw' : wR a + wR b ≤ 400 := hw
    have := h1 h.1 (by omega); have := h2 h.2 (by omega)
    unfold cl cs cm wR; omega
  | sub a b h1 h2 =>
    intro h hw
    have w1 := wR_bd a h.1
    have w2 := wR_bd b h.2
    have hw' : wR a + wR b + 1 ≤ 400 := hw
    have := h1 h.1 (by omega); have := h2 h.2 (by omega)
    unfold cl cs cm wR; omega
  | neg a h1 =>
    intro h hw
    have hw' : wR a + 1 ≤ 400 := hw
    have := h1 h (by omega)
    unfold cl cs cm wR; omega
  | mulL k a h1 =>
    intro h hw
    have hw' : wR a + (if 1 ≤ k then 2 else 1) ≤ 400 := hw
    have := h1 h.2.2 (by split at hw' <;> omega)
    unfold cl cs cm wR; split <;> omega
  | mulR a k h1 =>
    intro h hw
    obtain ⟨g1, g2, g3, g4, g5, g6, g7⟩ := h
    have w1 := wR_bd a g7
    obtain ⟨i1, i2, i3⟩ := cl_nn a g7
    have hw' : (if wRep (wR a) k < 100000 then wRep (wR a) k else 100000) ≤ 400 := hw
    have hwr : wRep (wR a) k ≤ 400 := by split at hw' <;> omega
    have hwe : wR (.mulR a k) = wRep (wR a) k := by
      show (if wRep (wR a) k < 100000 then wRep (wR a) k else 100000) = _
      rw [if_pos (by omega)]
    rw [hwe]
    unfold wRep at hwr ⊢
    have a1 := Int.mul_nonneg g1 w1.1
    by_cases hh : rh k < 0
    · rw [if_pos hh] at hwr ⊢
      have hwa : wR a ≤ 400 := by split at hwr <;> omega
      obtain ⟨j1, j2, j3⟩ := h1 g7 hwa
      have m1 : rl k * cl a ≤ rl k * (4 * wR a) := Int.mul_le_mul_of_nonneg_left j1 g1
      have m2 : rl k * cs a ≤ rl k * wR a := Int.mul_le_mul_of_nonneg_left j2 g1
      have m3 : rl k * cm a ≤ rl k * wR a := Int.mul_le_mul_of_nonneg_left j3 g1
      have m4 : rl k * (4 * wR a) = 4 * (rl k * wR a) := by rw [Int.mul_left_comm]
      unfold cl cs cm
      simp only [if_pos hh]
      refine ⟨?_, ?_, ?_⟩ <;> (try split) <;> omega
    · rw [if_neg hh] at hwr ⊢
      have b0 : 0 ≤ (rh k - rl k) * (wR a + 1) := Int.mul_nonneg (by omega) (by omega)
      by_cases hz : rl k = 0 ∧ rh k = 0
      · unfold cl cs cm
        simp only [if_neg hh, hz.1, hz.2]
        simp only [Int.zero_mul, Int.sub_zero, Int.zero_add]
        refine ⟨?_, ?_, ?_⟩ <;> (try split) <;> omega
      · have hwa : wR a ≤ 400 := by
          by_cases hl : rl k = 0
          · have : 1 ≤ rh k - rl k := by omega
            have := Int.mul_le_mul_of_nonneg_right this (show 0 ≤ wR a + 1 by omega)
            split at hwr <;> omega
          · have : 1 ≤ rl k := by omega
            have := Int.mul_le_mul_of_nonneg_right this w1.1
            split at hwr <;> omega
        obtain ⟨j1, j2, j3⟩ := h1 g7 hwa
        have hd : 0 ≤ rh k - rl k := by omega
        have m1 : rl k * cl a ≤ rl k * (4 * wR a) := Int.mul_le_mul_of_nonneg_left j1 g1
        have m2 : rl k * cs a ≤ rl k * wR a := Int.mul_le_mul_of_nonneg_left j2 g1
        have m3 : rl k * cm a ≤ rl k * wR a := Int.mul_le_mul_of_nonneg_left j3 g1
        have m4 : rl k * (4 * wR a) = 4 * (rl k * wR a) := by rw [Int.mul_left_comm]
        have n1 : (rh k - rl k) * (cl a + 1) ≤ (rh k - rl k) * (4 * (wR a + 1)) := Int.mul_le_mul_of_nonneg_left (by omega) hd
        have n2 : (rh k - rl k) * (cs a + 1) ≤ (rh k - rl k) * (wR a + 1) := Int.mul_le_mul_of_nonneg_left (by omega) hd
        have n3 : (rh k - rl k) * cm a ≤ (rh k - rl k) * (wR a + 1) := Int.mul_le_mul_of_nonneg_left (by omega) hd
        have n4 : (rh k - rl k) * (4 * (wR a + 1)) = 4 * ((rh k - rl k) * (wR a + 1)) := by rw [Int.mul_left_comm]
        unfold cl cs cm
        simp only [if_neg hh]
        refine ⟨?_, ?_, ?_⟩ <;> (try split) <;> omega
section RSEG
variable {m : Nat} {h0 : qH} {d : Nat} {B : qB} {Q : qO → qB → Prop}
def ltB (B : qB) (w a b c : Int) : qB := u2 (u2 (u2 (u2 (u2 B 60 (B 64 0) w) 61 (B 64 0) a) 62 (B 64 0) b) 63 (B 64 0) c) 64 0 (B 64 0 + 1)
theorem R_later (hm : m + 100 < 1000000000) {w a b c : Int} (h1 : 0 ≤ B 64 0) (h2 : B 64 0 < 6000) (k : Q (.inl none) (ltB B w a b c)) : qZ m h0 (d + 1) k_later 0 [some (.ref m), some (iv w), some (iv a), some (iv b), some (iv c)] [] B Q := by
  refine r_later_0_ok hm ?_
  unfold r_later_0
  exact ⟨h1, h2, k⟩
theorem R_split (hm : m + 100 < 1000000000) {s a b z : Int} (h1 : 0 ≤ s) (h2 : s < 6000) (hz : z = 0 ∨ z = 1) (k : Q (.inl none) (u2 (u2 B 43 s (if z = 1 then b else a)) 44 s (if z = 1 then a else b))) : qZ m h0 (d + 1) k_split 0 [some (.ref m), some (iv s), some (iv a), some (iv b), some (iv z)] [] B Q := by
  have hR : R32 z := ⟨by omega, by omega⟩
  refine r_split_0_ok hm ?_
  unfold r_split_0
  refine ⟨hR, fun q => ?_, fun q => ?_⟩
  · unfold r_split_15
    rw [if_neg (by omega), if_neg (by omega)] at k
    exact ⟨h1, h2, hR, fun _ => ⟨h1, h2, k⟩, fun q2 => absurd q q2⟩
  · unfold r_split_15
    rw [if_pos (by omega), if_pos (by omega)] at k
    exact ⟨h1, h2, hR, fun q2 => absurd q2 q, fun _ => ⟨h1, h2, k⟩⟩
/-- an instruction that is no split and no question -/
def em0 (B : qB) (c x y : Int) : qB := u2 (u2 (u2 (u2 (u2 B 42 (B 46 0) c) 43 (B 46 0) x) 44 (B 46 0) y) 45 (B 46 0) (B 48 0)) 46 0 (B 46 0 + 1)
theorem R_emit0 (hm : m + 100 < 1000000000) {c x y : Int} (h1 : 0 ≤ B 46 0) (h2 : B 46 0 < 6000) (hc : 0 ≤ c) (hc2 : c ≤ 11) (n1 : ¬ c = 1) (n6 : ¬ c = 6) (k : Q (.inl (some (iv (B 46 0)))) (em0 B c x y)) : qZ m h0 (d + 1) k_emit 0 [some (.ref m), some (iv c), some (iv x), some (iv y), none] [] B Q := by
  refine r_emit_0_ok hm ?_
  unfold r_emit_0
  refine ⟨h1, h2, ⟨by omega, by omega⟩, fun q => absurd q n1, fun _ => ⟨fun _ => ?_, fun q => absurd q n6⟩⟩
  unfold r_emit_146
  rw [u2_bank (by decide), u2_bank (by decide), u2_bank (by decide), u2_bank (by decide), show B 46 0 + 1 - 1 = B 46 0 by omega]
  exact k
/-- a split or a question, within the rounds of ctx -/
def em1 (B : qB) (c x y L : Int) : qB := u2 (u2 (u2 (u2 (u2 (u2 (u2 (u2 (u2 B 42 (B 46 0) c) 43 (B 46 0) x) 44 (B 46 0) y) 45 (B 46 0) (B 48 0)) 52 (B 48 0) (B 55 0)) 54 (B 48 0) (B 56 0)) 56 0 (B 56 0 + 1 + L)) 48 0 (B 48 0 + 1)) 54 (B 48 0 + 1) (B 56 0 + 1 + L)
theorem R_emit1 (hm : m + 100 < 1000000000) {c x y : Int} {ctx : List Int} (h1 : 0 ≤ B 46 0) (h2 : B 46 0 < 6000) (hc : c = 1 ∨ c = 6) (s1 : 0 ≤ B 48 0) (s2 : B 48 0 < 2000) (h55 : B 55 0 = ctxH ctx) (hch : CH B ctx) (k : Q (.inl (some (iv (B 46 0)))) (u2 (em1 B c x y ctx.length) 46 0 (B 46 0 + 1))) : qZ m h0 (d + 1) k_emit 0 [some (.ref m), some (iv c), some (iv x), some (iv y), none] [] B Q := by
  generalize hB1 : u2 (u2 (u2 (u2 (u2 (u2 B 42 (B 46 0) c) 43 (B 46 0) x) 44 (B 46 0) y) 45 (B 46 0) (B 48 0)) 52 (B 48 0) (B 55 0)) 54 (B 48 0) (B 56 0) = B1
  have b46 : B1 46 0 = B 46 0 := by rw [← hB1]; simp [u2]
  have b48 : B1 48 0 = B 48 0 := by rw [← hB1]; simp [u2]
  have b53 : ∀ y, B1 53 y = B 53 y := fun y => by rw [← hB1]; simp [u2]
  have fin : Q (.inl (some (iv (B 46 0)))) (u2 (u2 (u2 (u2 B1 56 0 (B 56 0 + 1 + ctx.length)) 48 0 (B 48 0 + 1)) 54 (B 48 0 + 1) (B 56 0 + 1 + ctx.length)) 46 0 (B 46 0 + 1)) := by
    rw [← hB1]
    exact k
  have L : ∀ (c2 : List Int) (w : Int), CH B c2 → w + c2.length = B 56 0 + 1 + ctx.length → qZ m h0 (d + 1) k_emit 96 [some (.ref m), none, none, none, some (iv (ctxH c2))] [] (u2 B1 56 0 w) Q := by
    intro c2
    induction c2 with
    | nil =>
      intro w _ hw
      have hw' : w = B 56 0 + 1 + ctx.length := by simpa using hw
      refine r_emit_96_ok hm ?_
      unfold r_emit_96
      refine ⟨⟨by decide, by decide⟩, fun _ => ?_, fun q => absurd q (by decide)⟩
      rw [u2_bank (by decide), b48, u2_same]
      refine ⟨by omega, by omega, ?_⟩
      unfold r_emit_146
      rw [u2_bank (by decide), u2_bank (by decide), u2_bank (by decide), b46, show B 46 0 + 1 - 1 = B 46 0 by omega, hw']
      exact fin
    | cons q r ih =>
      intro w hq hw
      obtain ⟨q1, q2, q3, q4⟩ := hq
      refine r_emit_96_ok hm ?_
      unfold r_emit_96
      have e : ctxH (q :: r) = q := rfl
      rw [e]
      refine ⟨⟨by omega, by omega⟩, fun z => by omega, fun _ => ⟨q1, q2, ?_⟩⟩
      rw [u2_bank (by decide), b53, q3, u2_same, u2_u2]
      refine ih (w + 1) q4 ?_
      rw [List.length_cons] at hw
      omega
  have n54 : r_emit_54 m h0 d (u2 (u2 (u2 (u2 B 42 (B 46 0) c) 43 (B 46 0) x) 44 (B 46 0) y) 45 (B 46 0) (B 48 0)) Q := by
    unfold r_emit_54
    have e48 : (u2 (u2 (u2 (u2 B 42 (B 46 0) c) 43 (B 46 0) x) 44 (B 46 0) y) 45 (B 46 0) (B 48 0)) 48 0 = B 48 0 := by simp [u2]
    have e55 : (u2 (u2 (u2 (u2 B 42 (B 46 0) c) 43 (B 46 0) x) 44 (B 46 0) y) 45 (B 46 0) (B 48 0)) 55 0 = B 55 0 := by simp [u2]
    have e56 : (u2 (u2 (u2 (u2 B 42 (B 46 0) c) 43 (B 46 0) x) 44 (B 46 0) y) 45 (B 46 0) (B 48 0)) 56 0 = B 56 0 := by simp [u2]
    rw [e48, e55, e56, hB1, h55]
    exact ⟨s1, s2, by omega, L ctx (B 56 0 + 1) hch rfl⟩
  refine r_emit_0_ok hm ?_
  unfold r_emit_0
  refine ⟨h1, h2, ⟨by omega, by omega⟩, fun _ => n54, fun q => ⟨fun q6 => by omega, fun _ => n54⟩⟩
end RSEG
