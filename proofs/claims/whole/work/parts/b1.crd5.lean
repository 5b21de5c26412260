/-! THE CLASS'S READER: quantifiers -/
theorem arC_o {B : qB} {p l h g : Int} (hl : B 90 8 < 408) (b : Nat) (x : Int) (h1 : ¬ (b = 90 ∧ x = 8)) (h2 : ¬ ((91 ≤ b ∧ b ≤ 97) ∧ x = B 90 8)) : arC B p l h g b x = B b x := by
  have av : adV B = B 90 8 := by unfold adV; rw [if_pos hl]
  unfold arC
  rw [av]
  have u : ∀ (C : qB) (b' : Nat) (y v : Int), ¬ (b = b' ∧ x = y) → u2 C b' y v b x = C b x := fun C b' y v hn => by
    by_cases hb : b = b'
    · subst hb; exact u2_idx (fun w => hn ⟨rfl, w⟩)
    · exact u2_bank hb
  rw [u _ _ _ _ (by omega), u _ _ _ _ (by omega)]
  exact adT_o b x h1 (by omega)
theorem arC_n {B : qB} {p l h g : Int} (hl : B 90 8 < 408) : arC B p l h g 90 8 = B 90 8 + 1 ∧ arC B p l h g 91 (B 90 8) = 11 ∧ arC B p l h g 92 (B 90 8) = g ∧ arC B p l h g 93 (B 90 8) = p ∧ arC B p l h g 94 (B 90 8) = 0 ∧ arC B p l h g 95 (B 90 8) = l ∧ arC B p l h g 96 (B 90 8) = h ∧ arC B p l h g 97 (B 90 8) = min (arW (B 97 p) l h g) 401 := by
  have av : adV B = B 90 8 := by unfold adV; rw [if_pos hl]
  have n := adT_n (B := B) (k := 11) (v := g) (i := p) (z := arW (B 97 p) l h g) hl
  unfold arC
  rw [av]
  refine ⟨?_, ?_, ?_, ?_, ?_, ?_, u2_same, ?_⟩
  · rw [u2_bank (by decide), u2_bank (by decide)]; exact n.1
  · rw [u2_bank (by decide), u2_bank (by decide)]; exact n.2.1
  · rw [u2_bank (by decide), u2_bank (by decide)]; exact n.2.2.1
  · rw [u2_bank (by decide), u2_bank (by decide)]; exact n.2.2.2.1
  · rw [u2_bank (by decide), u2_bank (by decide)]; exact n.2.2.2.2.1
  · rw [u2_bank (by decide), u2_same]
  · rw [u2_bank (by decide), u2_bank (by decide)]; exact n.2.2.2.2.2
theorem arW_bd {w l h g : Int} (w0 : 0 ≤ w) (w1 : w ≤ 401) (l0 : 0 ≤ l) (l1 : l ≤ 21) (h0 : h = -1 ∨ l ≤ h) (h1 : h ≤ 21) : 0 ≤ arW w l h g ∧ arW w l h g ≤ 20000 := by
  unfold arW
  have e1 : 0 ≤ l * w := Int.mul_nonneg l0 w0
  have e2 : l * w ≤ 21 * w := Int.mul_le_mul_of_nonneg_right l1 w0
  by_cases hh : h = -1
  · rw [if_pos hh]; split <;> omega
  · rw [if_neg hh]
    have e3 : 0 ≤ (h - l) * (w + 1) := Int.mul_nonneg (by omega) (by omega)
    have e4 : (h - l) * (w + 1) ≤ 21 * (w + 1) := Int.mul_le_mul_of_nonneg_right (by omega) (by omega)
    split <;> omega
/-- the weights agree -/
theorem arW_min {W l h g : Int} (W0 : 0 ≤ W) (l0 : 0 ≤ l) (l1 : l ≤ 20) (h0 : h = -1 ∨ l ≤ h) (h1 : h ≤ 20) (e : qT) (hW : wR e = W) : min (wR (.mulR e (rc l h g))) 401 = min (arW (min W 401) l h g) 401 := by
  have r1 : rl (rc l h g) = l := rc_l l0 (by omega)
  have r2 : rh (rc l h g) = h := rc_h l0 (by omega) (by omega) (by omega)
  have r3 : rg (rc l h g) = g := rc_g l0 (by omega) (by omega) (by omega)
  show min (if wRep (wR e) (rc l h g) < 100000 then wRep (wR e) (rc l h g) else 100000) 401 = _
  have eR : wRep (wR e) (rc l h g) = arW W l h g := by
    unfold wRep arW
    rw [r1, r2, r3, hW]
    by_cases hh : h = -1
    · rw [if_pos hh, if_pos (by omega)]
    · rw [if_neg hh, if_neg (by omega)]
  rw [eR]
  by_cases hw : W ≤ 400
  · rw [show min W 401 = W by omega]
    split <;> omega
  · rw [show min W 401 = 401 by omega]
    by_cases hz : l = 0 ∧ h = 0
    · obtain ⟨rfl, rfl⟩ := hz
      have e0 : ∀ w, arW w 0 0 g = if g = 2 then 1 else 0 := fun w => by
        unfold arW
        rw [if_neg (by decide), Int.zero_mul, Int.sub_zero, Int.zero_mul]
        omega
      rw [e0, e0]
      have : (if g = 2 then (1 : Int) else 0) ≤ 1 := by split <;> omega
      rw [if_pos (by omega)]
    · have big : ∀ w, 401 ≤ w → 401 ≤ arW w l h g := fun w hw => by
        unfold arW
        have e1 : 0 ≤ l * w := Int.mul_nonneg l0 (by omega)
        have e5 : 0 ≤ (if g = 2 then (1 : Int) else 0) := by split <;> omega
        by_cases hh : h = -1
        · rw [if_pos hh]; omega
        · rw [if_neg hh]
          have e3 : 0 ≤ (h - l) * (w + 1) := Int.mul_nonneg (by omega) (by omega)
          by_cases hl : l = 0
          · have e4 : 1 * (w + 1) ≤ (h - l) * (w + 1) := Int.mul_le_mul_of_nonneg_right (by omega) (by omega)
            omega
          · have e4 : 1 * w ≤ l * w := Int.mul_le_mul_of_nonneg_right (by omega) (by omega)
            omega
      have b1 := big W (by omega)
      have b2 := big 401 (by omega)
      split <;> omega
section CRD5
variable {h1 : qH} {d : Nat} {Q : qO → qB → Prop} {sg : Int → Int} {B0 B : qB}
theorem RS_ar {p l h g : Int} (hR : RS sg B0 B) (hl : B 90 8 < 408) (ho : arO B p l h g) (w0 : 0 ≤ arW (B 97 p) l h g) : RS sg B0 (arC B p l h g) := by
  have h0 := hR
  obtain ⟨g1, g2, g3, g4, g5, g6, g7, g8, g9, g10, g11, g12⟩ := hR
  have o1 : ∀ x, arC B p l h g 100 x = B 100 x := fun x => arC_o hl 100 x (by omega) (by omega)
  have o2 : arC B p l h g 98 1 = B 98 1 := arC_o hl 98 1 (by omega) (by omega)
  have n := arC_n (p := p) (l := l) (h := h) (g := g) hl
  refine RS.mk' h0 (S_Tr_addRounds g1 ho) (fun b x q => arC_o hl b x (by omega) (by omega)) (o1 1) (by rw [o1, o2]; exact g7.2) (by rw [o1]; exact g2.2.2.2) (by rw [n.1]; omega) (by rw [o2]; exact g7.1) (fun x x0 x1 => ?_) (by rw [o1]; exact g9) (by rw [o1, o1]; exact g10) (by rw [o1]; exact g11) (by rw [o1]; exact g12)
  by_cases hx : x = B 90 8
  · subst hx
    rw [n.2.2.2.2.2.2.2]
    omega
  · rw [arC_o hl 97 x (by omega) (by omega)]; exact g8 x x0 x1
theorem sQt_123 {lk a : Int} {e : qT} (hs : sg a = 123) (hno : noq e = false) : sQt sg lk e a = match sNm sg (a + 1) with
    | .error w => .error w
    | .ok (l, a1) => match sMo sg l a1 with
      | .error w => .error w
      | .ok (h, b) => sTl sg lk e l h b := by
  unfold sQt
  rw [if_pos (by rw [hs]; rfl), if_neg (by rw [hno]; decide), if_pos hs]
  cases hn : sNm sg (a + 1) with
  | error w => rfl
  | ok q =>
    obtain ⟨l, a1⟩ := q
    dsimp only
    unfold sMo
    by_cases h1 : sg a1 = 44
    · rw [if_pos h1, if_pos h1]
      by_cases h2 : sg (a1 + 1) = 125
      · rw [if_pos h2, if_pos h2]
      · rw [if_neg h2, if_neg h2]
        cases hm : sNm sg (a1 + 1) with
        | error w => rfl
        | ok q2 =>
          obtain ⟨hh, a2⟩ := q2
          dsimp only
          by_cases h3 : hh < l
          · rw [if_pos h3, if_pos h3]
          · rw [if_neg h3, if_neg h3]
            by_cases h4 : sg a2 = 125
            · rw [if_pos h4, if_pos h4]
            · rw [if_neg h4, if_neg h4]
    · rw [if_neg h1, if_neg h1]
      by_cases h2 : sg a1 = 125
      · rw [if_pos h2, if_pos h2]
      · rw [if_neg h2, if_neg h2]
theorem sQt_s {lk a : Int} {e : qT} (hq : isQt (sg a) = true) (hs : sg a ≠ 123) (hno : noq e = false) : sQt sg lk e a = sTl sg lk e (if sg a = 43 then 1 else 0) (if sg a = 63 then 1 else -1) (a + 1) := by
  unfold sQt
  rw [if_pos hq, if_neg (by rw [hno]; decide), if_neg hs]
theorem isQt_i {s : Int} : isQt s = true ↔ (s = 42 ∨ s = 43 ∨ s = 63 ∨ s = 123) := by
  unfold isQt
  simp only [Bool.or_eq_true, decide_eq_true_eq]
  omega
/-- rounds have been read -/
def RdO (sg : Int → Int) (B0 B B' : qB) (x1 : Int) (e : qT) (l h g b : Int) : Prop := ((0 ≤ l ∧ l ≤ 20) ∧ (h = -1 ∨ l ≤ h) ∧ h ≤ 20 ∧ 0 ≤ g ∧ g ≤ 2) ∧ RS sg B0 B' ∧ B' 100 3 = -1 ∧ B' 100 2 = b ∧ b ≤ 200 ∧ B 100 2 < b ∧ B' 100 5 = B 100 5 ∧ B' 100 6 = B 100 6 ∧ B' 100 7 = B 100 7 + (if g = 2 then 1 else 0) ∧ B' 90 8 = B 90 8 + 1 ∧ (∀ b x, 91 ≤ b → b ≤ 97 → 0 ≤ x → x < B 90 8 → B' b x = B b x) ∧ B' 98 1 = B 98 1 ∧ (∀ x, B' 99 x = B 99 x) ∧ B' 91 (B 90 8) = 11 ∧ B' 92 (B 90 8) = g ∧ B' 93 (B 90 8) = x1 ∧ B' 95 (B 90 8) = l ∧ B' 96 (B 90 8) = h ∧ B' 97 (B 90 8) = min (wR (.mulR e (rc l h g))) 401
theorem R_readRounds {e : qT} {x1 z lk : Int} (hd : 5 ≤ d) (h : RS sg B0 B) (h3 : B 100 3 = -1) (hs : B 90 8 < 408) (v0 : 1 ≤ x1) (v1 : x1 < B 90 8) (hwt : B 97 x1 = min (wR e) 401) (hw0 : 0 ≤ wR e) (hq : isQt (sg (B 100 2)) = true) (hno : noq e = false) (hz : z = bi (decide (lk > 0 ∨ aT e = true)))
    (kG : ∀ q b, sQt sg lk e (B 100 2) = .ok (q, b) → ∀ l hh g B', q = .mulR e (rc l hh g) → RdO sg B0 B B' x1 e l hh g b → Q (.inl (some (iv (B 90 8)))) B')
    (kB : ∀ w, sQt sg lk e (B 100 2) = .error w → ∀ B' v, BP sg B0 10 B B' w → 0 ≤ v → v < 408 → Q (.inl (some (iv v))) B') : qY h1 d n_Re_readRounds 0 [some (.ref 100), some (iv x1), some (iv z), none, none, none, none] [] B Q := by
  obtain ⟨d, rfl, he⟩ := d_pos hd
  have A0 := h.2.1.2.2.1
  have qi := isQt_i.mp hq
  have a9 := (h.lt (i := B 100 2) (by omega)).1
  have K7 := h.2.2.2.2.2.2.2.2.2.1
  have S8 := h.2.2.2.2.2.1
  refine y_wk (c_Re_readRounds_0_ok (by omega) h.1 ?_) ⟨rfl, rfl, rfl, trivial⟩
  unfold c_Re_readRounds_0
  rw [h.2.2.1, Int.add_zero]
  have R1 := RS_at (z := B 100 2 + 1) h (by omega) (by omega)
  have a1 : (u2 B 100 2 (B 100 2 + 1)) 100 2 = B 100 2 + 1 := u2_same
  have t1 : (u2 B 100 2 (B 100 2 + 1)) 100 3 = -1 := by rw [u2_idx (by decide)]; exact h3
  have fr1 : ∀ b x, ¬ (b = 100 ∧ (x = 2 ∨ x = 3)) → (u2 B 100 2 (B 100 2 + 1)) b x = B b x := fun b x q => by
    by_cases hb : b = 100
    · subst hb; exact u2_idx (by omega)
    · exact u2_bank hb
  -- a pattern that is broken
  have k63B : ∀ (l hh w : Int) (B2 : qB), RS sg B0 B2 → B2 100 3 = w → w ≠ -1 → B2 100 2 ≤ 280 → B2 100 6 = B 100 6 → sQt sg lk e (B 100 2) = .error w → c_Re_readRounds_63 h1 d x1 z l hh B2 Q := by
    intro l hh w B2 g1 g2 g3 g4 g5 g6
    refine ⟨g1.R3, fun q => ?_, fun _ => kB w g6 B2 x1 ⟨g1, g2, g3, g5, by omega⟩ (by omega) (by omega)⟩
    have := bi_z.mp q
    rw [decide_eq_true (show ¬ B2 100 3 = -1 by omega)] at this
    cases this
  -- the rounds are added
  have k146 : ∀ (l hh g b : Int) (B3 : qB), ((0 ≤ l ∧ l ≤ 20) ∧ (hh = -1 ∨ l ≤ hh) ∧ hh ≤ 20 ∧ 0 ≤ g ∧ g ≤ 2) → RS sg B0 B3 → B3 100 2 = b → (∀ b x, ¬ (b = 100 ∧ (x = 2 ∨ x = 3 ∨ x = 7)) → B3 b x = B b x) → (∀ B', RS sg B0 B' → (∀ x, B' 100 x = B3 100 x) → B' 90 8 = B 90 8 + 1 → (∀ b x, 91 ≤ b → b ≤ 97 → 0 ≤ x → x < B 90 8 → B' b x = B b x) → B' 98 1 = B 98 1 → (∀ x, B' 99 x = B 99 x) → B' 91 (B 90 8) = 11 → B' 92 (B 90 8) = g → B' 93 (B 90 8) = x1 → B' 95 (B 90 8) = l → B' 96 (B 90 8) = hh → B' 97 (B 90 8) = min (wR (.mulR e (rc l hh g))) 401 → Q (.inl (some (iv (B 90 8)))) B') → c_Re_readRounds_146 h1 d x1 l hh g B3 Q := by
    intro l hh g b B3 rg g1 g2 g3 k
    have s3 : B3 90 8 = B 90 8 := g3 90 8 (by omega)
    have w3 : B3 97 x1 = min (wR e) 401 := by rw [g3 97 x1 (by omega)]; exact hwt
    have wb := arW_bd (w := min (wR e) 401) (l := l) (h := hh) (g := g) (by omega) (by omega) rg.1.1 (by omega) rg.2.1 (by omega)
    have ho : arO B3 x1 l hh g := ⟨by omega, by omega, ⟨by omega, by omega⟩, ⟨by omega, by omega⟩, by omega, by omega, by rw [w3]; exact ⟨by omega, by omega⟩⟩
    have hl : B3 90 8 < 408 := by omega
    have n := arC_n (p := x1) (l := l) (h := hh) (g := g) hl
    rw [s3] at n
    have av : adV B3 = B 90 8 := by unfold adV; rw [if_pos hl, s3]
    refine ⟨ho, ?_⟩
    rw [av]
    refine k _ (RS_ar g1 hl ho (by rw [w3]; omega)) (fun x => arC_o hl 100 x (by omega) (by omega)) n.1 (fun b x b0 b1 x0 x1 => ?_) ?_ (fun x => ?_) n.2.1 n.2.2.1 n.2.2.2.1 n.2.2.2.2.2.1 n.2.2.2.2.2.2.1 ?_
    · rw [arC_o hl b x (by omega) (by omega)]; exact g3 b x (by omega)
    · rw [arC_o hl 98 1 (by omega) (by omega)]; exact g3 98 1 (by omega)
    · rw [arC_o hl 99 x (by omega) (by omega)]; exact g3 99 x (by omega)
    · rw [n.2.2.2.2.2.2.2, w3]
      exact (arW_min hw0 rg.1.1 rg.1.2 rg.2.1 rg.2.2.1 e rfl).symm
  -- behind the numbers
  have k63 : ∀ (l hh b : Int) (B2 : qB), ((0 ≤ l ∧ l ≤ 20) ∧ (hh = -1 ∨ l ≤ hh) ∧ hh ≤ 20) → RS sg B0 B2 → B2 100 3 = -1 → B2 100 2 = b → b ≤ 200 → B 100 2 < b → (∀ b x, ¬ (b = 100 ∧ (x = 2 ∨ x = 3)) → B2 b x = B b x) → sQt sg lk e (B 100 2) = sTl sg lk e l hh b → c_Re_readRounds_63 h1 d x1 z l hh B2 Q := by
    intro l hh b B2 rg g1 g2 g3 g4 g5 g6 hE
    have f100 : ∀ x, x ≠ 2 → x ≠ 3 → B2 100 x = B 100 x := fun x q1 q2 => g6 100 x (by omega)
    unfold sTl at hE
    unfold c_Re_readRounds_63
    rw [g1.2.2.1, Int.add_zero, g3]
    refine ⟨g1.R3, fun _ => ⟨g1.2.1, g1.R _, fun q => ⟨fun q2 => ?_, fun q2 => ?_⟩, fun q => ?_⟩, fun q => ?_⟩
    · rw [if_neg q, if_neg q2] at hE
      refine k146 l hh 0 b B2 ⟨rg.1, rg.2.1, rg.2.2, by decide, by decide⟩ g1 g3 (fun b x q => g6 b x (by omega)) (fun B' r1 r2 r3 r4 r5 r6 r7 r8 r9 r10 r11 r12 => ?_)
      exact kG _ _ hE l hh 0 B' rfl ⟨⟨rg.1, rg.2.1, rg.2.2, by decide, by decide⟩, r1, by rw [r2]; exact g2, by rw [r2]; exact g3, g4, g5, by rw [r2]; exact f100 5 (by decide) (by decide), by rw [r2]; exact f100 6 (by decide) (by decide), by rw [r2, f100 7 (by decide) (by decide), if_neg (by decide)]; omega, r3, r4, r5, r6, r7, r8, r9, r10, r11, r12⟩
    · rw [if_neg q, if_pos q2] at hE
      have l2 := (h.lt (i := b) (by omega)).1
      have R7 : RS sg B0 (u2 B2 100 7 (B2 100 7 + 1)) := RS_f g1 (by omega) (fun w => absurd w (by decide)) (fun w => absurd w (by decide)) (fun w => absurd w (by decide)) (fun w => absurd w (by decide)) (fun _ => by rw [f100 7 (by decide) (by decide)]; omega)
      have b2 : (u2 B2 100 7 (B2 100 7 + 1)) 100 2 = b := by rw [u2_idx (by decide)]; exact g3
      have b3 : (u2 B2 100 7 (B2 100 7 + 1)) 100 3 = -1 := by rw [u2_idx (by decide)]; exact g2
      have b7 : (u2 B2 100 7 (B2 100 7 + 1)) 100 7 = B 100 7 + 1 := by rw [u2_same, f100 7 (by decide) (by decide)]
      have bf : ∀ b x, ¬ (b = 100 ∧ (x = 2 ∨ x = 3 ∨ x = 7)) → (u2 B2 100 7 (B2 100 7 + 1)) b x = B b x := fun b x q => by
        by_cases hb : b = 100
        · subst hb; rw [u2_idx (by omega)]; exact g6 100 x (by omega)
        · rw [u2_bank hb]; exact g6 b x (by omega)
      generalize u2 B2 100 7 (B2 100 7 + 1) = B4 at R7 b2 b3 b7 bf
      have hz01 : z = 0 ∨ z = 1 := by rw [hz]; exact bi_01 _
      refine ⟨⟨by omega, by omega⟩, fun q3 => ?_, fun q3 => ⟨R7.R3, ?_⟩⟩
      · have hc : ¬ (lk > 0 ∨ aT e = true) := by
          rw [hz] at q3
          exact of_decide_eq_false (bi_z.mp q3)
        rw [if_neg hc] at hE
        unfold c_Re_readRounds_136
        rw [b2]
        refine k146 l hh 2 (b + 1) _ ⟨rg.1, rg.2.1, rg.2.2, by decide, by decide⟩ (RS_at R7 (by omega) (by omega)) u2_same (fun b x q => ?_) (fun B' r1 r2 r3 r4 r5 r6 r7 r8 r9 r10 r11 r12 => ?_)
        · by_cases hb : b = 100
          · subst hb; rw [u2_idx (by omega)]; exact bf 100 x (by omega)
          · rw [u2_bank hb]; exact bf b x (by omega)
        · exact kG _ _ hE l hh 2 B' rfl ⟨⟨rg.1, rg.2.1, rg.2.2, by decide, by decide⟩, r1, by rw [r2, u2_idx (by decide)]; exact b3, by rw [r2, u2_same], by omega, by omega, by rw [r2, u2_idx (by decide)]; exact bf 100 5 (by omega), by rw [r2, u2_idx (by decide)]; exact bf 100 6 (by omega), by rw [r2, u2_idx (by decide), b7, if_pos rfl], r3, r4, r5, r6, r7, r8, r9, r10, r11, r12⟩
      · have hc : lk > 0 ∨ aT e = true := by
          rw [hz] at q3
          exact of_decide_eq_true (bi_n0.mp q3)
        rw [if_pos hc] at hE
        have R8 := RS_br (z := b) R7 (by omega) (by omega)
        have e2 : brC B4 b 100 2 = b := by rw [brC_at _ _ _ (by decide)]; exact b2
        have e3 : brC B4 b 100 3 = b := by rw [brC_3, if_pos b3]
        unfold c_Re_readRounds_136
        rw [e2]
        refine k146 l hh 2 (b + 1) _ ⟨rg.1, rg.2.1, rg.2.2, by decide, by decide⟩ (RS_at R8 (by omega) (by omega)) u2_same (fun b' x q => ?_) (fun B' r1 r2 r3 r4 r5 r6 r7 r8 r9 r10 r11 r12 => ?_)
        · by_cases hb : b' = 100
          · subst hb; rw [u2_idx (by omega), brC_at _ _ _ (by omega)]; exact bf 100 x (by omega)
          · rw [u2_bank hb, brC_b _ _ _ _ hb]; exact bf b' x (by omega)
        · refine kB b hE B' _ ⟨r1, by rw [r2, u2_idx (by decide)]; exact e3, by omega, by rw [r2, u2_idx (by decide), brC_at _ _ _ (by decide)]; exact bf 100 6 (by omega), by rw [r2, u2_same]; omega⟩ (by omega) (by omega)
    · rw [if_pos q] at hE
      have l2 := (h.lt (i := b) (by omega)).1
      refine k146 l hh 1 (b + 1) _ ⟨rg.1, rg.2.1, rg.2.2, by decide, by decide⟩ (RS_at g1 (by omega) (by omega)) u2_same (fun b x q => ?_) (fun B' r1 r2 r3 r4 r5 r6 r7 r8 r9 r10 r11 r12 => ?_)
      · by_cases hb : b = 100
        · subst hb; rw [u2_idx (by omega)]; exact g6 100 x (by omega)
        · rw [u2_bank hb]; exact g6 b x (by omega)
      · exact kG _ _ hE l hh 1 B' rfl ⟨⟨rg.1, rg.2.1, rg.2.2, by decide, by decide⟩, r1, by rw [r2, u2_idx (by decide)]; exact g2, by rw [r2, u2_same], by omega, by omega, by rw [r2, u2_idx (by decide)]; exact f100 5 (by decide) (by decide), by rw [r2, u2_idx (by decide)]; exact f100 6 (by decide) (by decide), by rw [r2, u2_idx (by decide), f100 7 (by decide) (by decide), if_neg (by decide)]; omega, r3, r4, r5, r6, r7, r8, r9, r10, r11, r12⟩
    · exact absurd g2 (of_decide_eq_true (bi_n0.mp q))
  -- { }
  have k123 : sg (B 100 2) = 123 → ∀ s0 x4, c_Re_readRounds_40 h1 d x1 z 123 x4 s0 (u2 B 100 2 (B 100 2 + 1)) Q := by
    intro h123 s0 x4
    have hE := sQt_123 (lk := lk) h123 hno
    rw [sNm_i] at hE
    refine ⟨⟨by decide, by decide⟩, fun q => absurd rfl q, fun _ => ?_⟩
    refine R_readNumber (by omega) R1 ⟨by decide, by decide⟩ (by omega) (fun hg => ⟨_, rfl, ?_⟩) (fun hg => ⟨_, rfl, ?_⟩)
    · rw [a1] at hg ⊢
      rw [if_pos hg] at hE
      have bd := nmV_bd h hg
      generalize nmV sg (B 100 2 + 1) = nv at hE bd
      obtain ⟨v, a'⟩ := nv
      have bd : 0 ≤ v ∧ v ≤ 21 ∧ B 100 2 + 1 < a' ∧ a' ≤ 200 := bd
      have R2 := RS_at (z := a') h (by omega) (by omega)
      rw [u2_uu]
      have fr2 : ∀ b x, ¬ (b = 100 ∧ (x = 2 ∨ x = 3)) → (u2 B 100 2 a') b x = B b x := fun b x q => by
        by_cases hb : b = 100
        · subst hb; exact u2_idx (by omega)
        · exact u2_bank hb
      have t2 : (u2 B 100 2 a') 100 3 = -1 := by rw [u2_idx (by decide)]; exact h3
      have e2 : (u2 B 100 2 a') 100 2 = a' := u2_same
      by_cases hv : 20 < v
      · rw [show (if 20 < (v, a').1 ∨ (v, a').1 < 0 then brC (u2 B 100 2 (v, a').2) (B 100 2 + 1) else u2 B 100 2 (v, a').2) = brC (u2 B 100 2 a') (B 100 2 + 1) from if_pos (Or.inl hv)]
        have hE' : sQt sg lk e (B 100 2) = .error (B 100 2 + 1) := by rw [hE, if_pos hv]
        have R3 := RS_br (z := B 100 2 + 1) R2 (by omega) (by omega)
        have e3 : brC (u2 B 100 2 a') (B 100 2 + 1) 100 2 = a' := by rw [brC_at _ _ _ (by decide)]; exact e2
        have e4 : brC (u2 B 100 2 a') (B 100 2 + 1) 100 3 = B 100 2 + 1 := by rw [brC_3, if_pos t2]
        refine ⟨R3.1, ?_⟩
        refine R_readMost (by omega) R3 ⟨bd.1, bd.2.1⟩ (by omega) (fun m B' hN _ _ => ⟨_, rfl, hN.1.1, ?_⟩)
        obtain ⟨n1, n2, n3, n4, n5, n6⟩ := hN
        refine k63B _ _ (B 100 2 + 1) B' n1 (by rw [n5 (by rw [e4]; omega)]; exact e4) (by omega) (by rw [e3] at n2; omega) ?_ hE'
        rw [n4 100 6 (by omega), brC_at _ _ _ (by decide)]; exact fr2 100 6 (by omega)
      · rw [show (if 20 < (v, a').1 ∨ (v, a').1 < 0 then brC (u2 B 100 2 (v, a').2) (B 100 2 + 1) else u2 B 100 2 (v, a').2) = u2 B 100 2 a' from if_neg (by show ¬ (20 < v ∨ v < 0); omega)]
        rw [if_neg hv] at hE
        have hE : sQt sg lk e (B 100 2) = match sMo sg v a' with
          | .error w => .error w
          | .ok (h, b) => sTl sg lk e v h b := hE
        refine ⟨R2.1, ?_⟩
        refine R_readMost (by omega) R2 ⟨bd.1, bd.2.1⟩ (by omega) (fun m B' hN hm1 hm2 => ⟨_, rfl, hN.1.1, ?_⟩)
        rw [e2] at hN hm2
        obtain ⟨n1, n2, n3, n4, n5, n6⟩ := hN
        have n6 := n6 t2
        cases hM : sMo sg v a' with
        | error w =>
          rw [hM] at n6 hE
          have n6 : B' 100 3 = w := n6
          have hE : sQt sg lk e (B 100 2) = .error w := hE
          have wn : w ≠ -1 := by
            have := n1.2.2.2.2.2.2.2.2.1
            intro hw
            unfold sMo at hM
            split at hM
            · split at hM
              · cases hM
              · split at hM
                · rename_i w' hw'
                  rw [sNm_i] at hw'
                  have e8 := Except.error.inj hM
                  split at hw'
                  · split at hw'
                    · have := Except.error.inj hw'; omega
                    · cases hw'
                  · have := Except.error.inj hw'; omega
                · rename_i hh b hb
                  have hb' := hb
                  rw [sNm_i] at hb'
                  split at hM
                  · have := Except.error.inj hM; omega
                  · split at hM
                    · cases hM
                    · have e8 := Except.error.inj hM
                      split at hb'
                      · rename_i hg2
                        have bd2 := nmV_bd h hg2
                        split at hb'
                        · cases hb'
                        · have e9 := Except.ok.inj hb'
                          rw [e9] at bd2
                          have := bd2.2.2.1
                          simp only [] at this
                          omega
                      · cases hb'
            · split at hM
              · cases hM
              · have := Except.error.inj hM; omega
          exact k63B _ _ w B' n1 n6 wn (by rw [e2] at n2; omega) (by rw [n4 100 6 (by omega)]; exact fr2 100 6 (by omega)) hE
        | ok qq =>
          obtain ⟨hh, b⟩ := qq
          rw [hM] at n6 hE
          have n6 : B' 100 3 = -1 ∧ B' 100 2 = b := n6
          have hE : sQt sg lk e (B 100 2) = sTl sg lk e v hh b := hE
          have mv := hm2 hh b hM
          subst mv
          have hb : b ≤ 200 ∧ (m = -1 ∨ v ≤ m) ∧ m ≤ 20 := by
            unfold sMo at hM
            split at hM
            · split at hM
              · rename_i hc2
                have := (h.lt (i := a' + 1) (by omega)).1
                cases hM
                exact ⟨by omega, by omega, by omega⟩
              · split at hM
                · cases hM
                · rename_i hx bx hbx
                  rw [sNm_i] at hbx
                  split at hbx
                  · rename_i hg2
                    have bd2 := nmV_bd h hg2
                    split at hbx
                    · cases hbx
                    · rename_i hle
                      have e9 := Except.ok.inj hbx
                      rw [e9] at bd2 hle
                      have hle : ¬ 20 < hx := hle
                      split at hM
                      · cases hM
                      · split at hM
                        · rename_i hc3 hc4
                          have := (h.lt (i := bx) (by omega)).1
                          cases hM
                          exact ⟨by omega, by omega, by omega⟩
                        · cases hM
                  · cases hbx
            · split at hM
              · rename_i hc2
                have := (h.lt (i := a') (by omega)).1
                cases hM
                exact ⟨by omega, by omega, by omega⟩
              · cases hM
          have hn3 : a' ≤ b := by rw [e2] at n3; omega
          exact k63 v m b B' ⟨⟨bd.1, by omega⟩, hb.2.1, hb.2.2⟩ n1 n6.1 n6.2 hb.1 (by omega) (fun b x q => (n4 b x q).trans (fr2 b x q)) hE
    · rw [a1] at hg ⊢
      rw [if_neg (by rw [hg]; decide)] at hE
      have hE : sQt sg lk e (B 100 2) = .error (B 100 2 + 1) := hE
      have R3 := RS_br (z := B 100 2 + 1) R1 (by omega) (by omega)
      have e3 : brC (u2 B 100 2 (B 100 2 + 1)) (B 100 2 + 1) 100 2 = B 100 2 + 1 := by rw [brC_at _ _ _ (by decide)]; exact a1
      have e4 : brC (u2 B 100 2 (B 100 2 + 1)) (B 100 2 + 1) 100 3 = B 100 2 + 1 := by rw [brC_3, if_pos t1]
      refine ⟨R3.1, ?_⟩
      refine R_readMost (by omega) R3 ⟨by decide, by decide⟩ (by omega) (fun m B' hN _ _ => ⟨_, rfl, hN.1.1, ?_⟩)
      obtain ⟨n1, n2, n3, n4, n5, n6⟩ := hN
      refine k63B _ _ (B 100 2 + 1) B' n1 (by rw [n5 (by rw [e4]; omega)]; exact e4) (by omega) (by rw [e3] at n2; omega) ?_ hE
      rw [n4 100 6 (by omega), brC_at _ _ _ (by decide)]; exact fr1 100 6 (by omega)
  -- * + ?
  have ks : sg (B 100 2) ≠ 123 → ∀ x4 s0, x4 = (if sg (B 100 2) = 43 then 1 else 0) → s0 = (if sg (B 100 2) = 63 then 1 else -1) → c_Re_readRounds_63 h1 d x1 z x4 s0 (u2 B 100 2 (B 100 2 + 1)) Q := by
    intro hn x4 s0 e4 e5
    refine k63 x4 s0 (B 100 2 + 1) _ ?_ R1 t1 a1 (by omega) (by omega) fr1 (by rw [sQt_s hq hn hno, e4, e5])
    rw [e4, e5]
    by_cases g1 : sg (B 100 2) = 43
    · rw [if_pos g1, if_neg (by omega)]; decide
    · rw [if_neg g1]
      split <;> decide
  have k27 : ∀ s0, s0 = (if sg (B 100 2) = 43 then 1 else 0) → c_Re_readRounds_27 h1 d x1 z (sg (B 100 2)) s0 (u2 B 100 2 (B 100 2 + 1)) Q := by
    intro s0 e4
    by_cases h123 : sg (B 100 2) = 123
    · rw [h123]
      exact ⟨⟨by decide, by decide⟩, fun _ => k123 h123 _ _, fun q => absurd q (by decide)⟩
    · exact ⟨h.R _, fun q => ⟨h.R _, fun _ => ks h123 _ _ e4 (by rw [if_neg q]), fun q2 => absurd q2 h123⟩, fun q => ⟨h.R _, fun _ => ks h123 _ _ e4 (by rw [if_pos q]), fun q2 => absurd q2 h123⟩⟩
  exact ⟨h.2.1, h.R _, fun q => k27 0 (by rw [if_neg q]), fun q => k27 1 (by rw [if_pos q])⟩
end CRD5
