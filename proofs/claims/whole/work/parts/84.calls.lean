/-! THE REFERENCE'S CALLS: its state between them, the short ones -/
def tre (B : qB) (p : Int) : qT := match sParse (sgF (pB B p) (B 6 p - 1)) with
  | .ok (e, _) => e
  | .error _ => .num 0
def PT (B : qB) (p : Int) : Prop := sParse (sgF (pB B p) (B 6 p - 1)) = .ok (tre B p, B 8 p) ∧ B 7 p = wR (tre B p) ∧ wR (tre B p) ≤ 400
def OI (B : qB) : Prop := (0 ≤ B 2 0 ∧ B 2 0 ≤ 1200) ∧ (∀ i, 0 ≤ i → i < 1200 → 0 ≤ B 1 i ∧ B 1 i < 256) ∧ (∀ i, 0 ≤ i → i < 1600 → 0 ≤ B 4 i ∧ B 4 i ≤ 255) ∧ (∀ p, 0 ≤ p → p < 8 → 0 ≤ B 6 p ∧ B 6 p ≤ 201 ∧ (1 ≤ B 6 p → PT B p)) ∧ (∀ x, 0 ≤ x → x < 4000 → 0 ≤ B 5 x ∧ B 5 x < 256) ∧ (∀ t, 0 ≤ t → t < 4 → 0 ≤ B 9 t ∧ B 9 t ≤ 1000) ∧ (0 ≤ B 14 0 ∧ B 14 0 ≤ 1001) ∧ (∀ i, 0 ≤ i → i < 1001 → (0 ≤ B 10 i ∧ B 10 i ≤ 1000) ∧ 0 ≤ B 11 i ∧ B 11 i ≤ 1000) ∧ (∀ y, y < 0 → B 31 y = 0) ∧ MR B ∧ B 59 0 = 0 ∧ (B 71 0 = 0 ∨ B 71 0 = 1) ∧ (∀ i, 0 ≤ i → i < 20 → -1 ≤ B 50 i ∧ B 50 i ≤ 1000) ∧ (-1 ≤ B 3 0 ∧ B 3 0 ≤ 5000)
/-- what stays between calls -/
def Pb (b : Nat) (_ : Int) : Prop := (1 ≤ b ∧ b ≤ 11) ∨ b = 14 ∨ b = 50 ∨ b = 71
theorem tre_fr {B B' : qB} {p : Int} (f4 : ∀ i, 0 ≤ i → i < B 6 p - 1 → B' 4 (200 * p + i) = B 4 (200 * p + i)) (f6 : B' 6 p = B 6 p) : sgF (pB B' p) (B' 6 p - 1) = sgF (pB B p) (B 6 p - 1) ∧ tre B' p = tre B p := by
  have e : sgF (pB B' p) (B' 6 p - 1) = sgF (pB B p) (B 6 p - 1) := by
    funext i
    unfold sgF
    rw [f6]
    by_cases h1 : i < B 6 p - 1
    · rw [if_pos h1, if_pos h1]
      by_cases h2 : i < 0
      · rw [if_pos h2, if_pos h2]
      · rw [if_neg h2, if_neg h2]
        unfold pB
        rw [f4 i (by omega) h1]
    · rw [if_neg h1, if_neg h1]
  refine ⟨e, ?_⟩
  unfold tre
  rw [e]
theorem PT_fr {B B' : qB} {p : Int} (f4 : ∀ i, 0 ≤ i → i < B 6 p - 1 → B' 4 (200 * p + i) = B 4 (200 * p + i)) (f6 : B' 6 p = B 6 p) (f7 : B' 7 p = B 7 p) (f8 : B' 8 p = B 8 p) (h : PT B p) : PT B' p := by
  obtain ⟨e1, e2⟩ := tre_fr (p := p) f4 f6
  unfold PT
  rw [e1, e2, f7, f8]
  exact h
/-- what the state hangs on -/
def OS (b : Nat) (y : Int) : Prop := Pb b y ∨ (b = 31 ∧ y < 0) ∨ b = 59
theorem OI_fr {B B' : qB} (h : OI B) (f : FrS OS B B') (hM : MR B') : OI B' := by
  obtain ⟨h1, h2, h3, h4, h5, h6, h7, h8, h9, h10, h11, h12, h13, h14⟩ := h
  have s : ∀ b y, (1 ≤ b ∧ b ≤ 11) ∨ b = 14 ∨ b = 50 ∨ b = 71 ∨ b = 59 → B' b y = B b y := fun b y q => f b y (by unfold OS Pb; omega)
  refine ⟨by rw [s 2 0 (by omega)]; exact h1, fun i i0 i1 => by rw [s 1 i (by omega)]; exact h2 i i0 i1, fun i i0 i1 => by rw [s 4 i (by omega)]; exact h3 i i0 i1, fun p p0 p1 => ?_, fun x x0 x1 => by rw [s 5 x (by omega)]; exact h5 x x0 x1, fun t t0 t1 => by rw [s 9 t (by omega)]; exact h6 t t0 t1, by rw [s 14 0 (by omega)]; exact h7, fun i i0 i1 => by rw [s 10 i (by omega), s 11 i (by omega)]; exact h8 i i0 i1, fun y hy => by rw [f 31 y (by unfold OS; omega)]; exact h9 y hy, hM, by rw [s 59 0 (by omega)]; exact h11, by rw [s 71 0 (by omega)]; exact h12, fun i i0 i1 => by rw [s 50 i (by omega)]; exact h13 i i0 i1, by rw [s 3 0 (by omega)]; exact h14⟩
  rw [s 6 p (by omega)]
  have := h4 p p0 p1
  exact ⟨this.1, this.2.1, fun q => PT_fr (fun i _ _ => s 4 _ (by omega)) (s 6 p (by omega)) (s 7 p (by omega)) (s 8 p (by omega)) (this.2.2 q)⟩
theorem OI_0 {B : qB} {v : Int} (h : OI B) : OI (u2 B 0 0 v) := OI_fr h (FrS.refl.u2 (by unfold OS Pb; omega)) (fun q q0 q1 => by rw [u2_bank (by decide)]; exact h.2.2.2.2.2.2.2.2.2.1 q q0 q1)
theorem Pb_0 {B : qB} {v : Int} : FrS Pb B (u2 B 0 0 v) := FrS.refl.u2 (by unfold Pb; omega)
theorem bi_dec {P : Prop} [Decidable P] (h : P) : bi (decide P) = 1 := by rw [decide_eq_true h]; rfl
theorem bi_no {P : Prop} [Decidable P] (h : ¬ P) : bi (decide P) = 0 := by rw [decide_eq_false h]; rfl
section CALLS
variable {m : Nat} {h0 : qH} {d : Nat} {B : qB} {Q : qO → qB → Prop}
theorem R_refuse (hm : m + 100 < 1000000000) {w : Int} (k : Q (.inl (some (iv 0))) (u2 B 0 0 w)) : qZ m h0 (d + 1) k_refuse 0 [some (.ref m), some (iv w)] [] B Q := by
  refine r_refuse_0_ok hm ?_
  unfold r_refuse_0
  exact k
/-- a bound is asked -/
theorem R_in2 (hm : m + 100 < 1000000000) {x a b : Int} (h1 : R32 x) (h2 : R32 a) (h3 : R32 b) (kT : a ≤ x → x ≤ b → Q (.inl (some (iv 1))) B) (kF : ¬ (a ≤ x ∧ x ≤ b) → Q (.inl (some (iv 0))) B) : qZ m h0 (d + 1) k_in 0 [some (iv x), some (iv a), some (iv b)] [] B Q := by
  refine R_in hm h1 h2 h3 ?_
  by_cases q1 : a ≤ x
  · by_cases q2 : x ≤ b
    · rw [decide_eq_true q1, decide_eq_true q2]; exact kT q1 q2
    · rw [decide_eq_true q1, decide_eq_false q2]; exact kF (fun w => q2 w.2)
  · rw [decide_eq_false q1]; exact kF (fun w => q1 w.1)
theorem R_thrown (hm : m + 100 < 1000000000) (k : Q (.inl (some (iv (B 0 0)))) B) : qZ m h0 (d + 1) k_thrown 0 [some (.ref m)] [] B Q := by
  refine r_thrown_0_ok hm ?_
  unfold r_thrown_0
  exact k
def byt (v k : Int) : Int := iAnd (iShr v k) 255
theorem byt_bd (v k : Int) : 0 ≤ byt v k ∧ byt v k < 256 := by
  unfold byt
  generalize iShr v k = x
  unfold iAnd
  have e : (Int32.ofInt x &&& Int32.ofInt 255).toBitVec.toNat ≤ 255 := by
    rw [Int32.toBitVec_and, BitVec.toNat_and]
    have : (Int32.ofInt 255).toBitVec.toNat = 255 := by decide
    rw [this]
    exact Nat.and_le_right
  show 0 ≤ (Int32.ofInt x &&& Int32.ofInt 255).toBitVec.toInt ∧ (Int32.ofInt x &&& Int32.ofInt 255).toBitVec.toInt < 256
  rw [BitVec.toInt_eq_toNat_of_lt (by omega)]
  omega
theorem R_four (hm : m + 100 < 1000000000) {v n : Int} (hn : B 2 0 = n) (n0 : 0 ≤ n) (n1 : n + 4 ≤ 1200) (k : ∀ B', (∀ b y, b ≠ 1 → b ≠ 2 → B' b y = B b y) → B' 2 0 = n + 4 → (∀ i, i < n → B' 1 i = B 1 i) → (∀ i, n + 4 ≤ i → B' 1 i = B 1 i) → (∀ j, 0 ≤ j → j < 4 → B' 1 (n + j) = byt v (24 - 8 * j)) → Q (.inl none) B') : qZ m h0 (d + 1) k_four 0 [some (.ref m), some (iv v), none] [] B Q := by
  have L : ∀ (N : Nat) (j : Int) (Bk : qB), 0 ≤ j → j + N = 4 → (∀ b y, b ≠ 1 → b ≠ 2 → Bk b y = B b y) → Bk 2 0 = n + j → (∀ i, i < n → Bk 1 i = B 1 i) → (∀ i, n + j ≤ i → Bk 1 i = B 1 i) → (∀ i, 0 ≤ i → i < j → Bk 1 (n + i) = byt v (24 - 8 * i)) → qZ m h0 (d + 1) k_four 3 [some (.ref m), some (iv v), some (iv (24 - 8 * j))] [] Bk Q := by
    intro N
    induction N with
    | zero =>
      intro j Bk j0 hj e1 e2 e3 e4 e5
      refine r_four_3_ok hm ?_
      unfold r_four_3
      exact ⟨⟨by omega, by omega⟩, fun _ => k Bk e1 (by omega) e3 (fun i hi => e4 i (by omega)) (fun i i0 i1 => e5 i i0 (by omega)), fun q => by omega⟩
    | succ N ih =>
      intro j Bk j0 hj e1 e2 e3 e4 e5
      refine r_four_3_ok hm ?_
      unfold r_four_3
      rw [e2]
      refine ⟨⟨by omega, by omega⟩, fun q => by omega, fun _ => ⟨by omega, by omega, ?_⟩⟩
      rw [show 24 - 8 * j + -8 = 24 - 8 * (j + 1) by omega]
      refine ih (j + 1) _ (by omega) (by omega) (fun b y b1 b2 => by rw [u2_bank b2, u2_bank b1]; exact e1 b y b1 b2) (by rw [u2_same]; omega) (fun i hi => by rw [u2_bank (by decide), u2_idx (by omega)]; exact e3 i hi) (fun i hi => by rw [u2_bank (by decide), u2_idx (by omega)]; exact e4 i (by omega)) (fun i i0 i1 => ?_)
      by_cases e : i = j
      · subst e; rw [u2_bank (by decide), u2_same]; rfl
      · rw [u2_bank (by decide), u2_idx (by omega)]; exact e5 i i0 (by omega)
  refine r_four_0_ok hm ?_
  unfold r_four_0
  exact L 4 0 B (Int.le_refl _) (by omega) (fun _ _ _ _ => rfl) (by omega) (fun _ _ => rfl) (fun _ _ => rfl) (fun i i0 i1 => by omega)
def fa (a b c e f j : Int) : Int := if j < 4 then a else if j < 8 then b else if j < 12 then c else if j < 16 then e else f
theorem R_feed (hm : m + 100 < 1000000000) {x1 x2 x3 x4 x5 : Int} (hO : OI B)
    (k1 : ¬ B 2 0 + 20 ≤ 1200 → Q (.inl (some (iv 0))) (u2 B 0 0 1))
    (k2 : B 2 0 + 20 ≤ 1200 → ∀ B', OI B' → B' 0 0 = 0 → B' 2 0 = B 2 0 + 20 → (∀ b y, Pb b y → b ≠ 1 → b ≠ 2 → B' b y = B b y) → (∀ i, i < B 2 0 → B' 1 i = B 1 i) → (∀ j, 0 ≤ j → j < 20 → B' 1 (B 2 0 + j) = byt (fa x1 x2 x3 x4 x5 j) (24 - 8 * (j % 4))) → Q (.inl (some (iv (B 2 0 + 20)))) B') : qZ m h0 (d + 2) k_feed 0 [some (.ref m), some (iv x1), some (iv x2), some (iv x3), some (iv x4), some (iv x5)] [] B Q := by
  obtain ⟨h1, -⟩ := hO.1
  have h2 := hO.1.2
  refine r_feed_0_ok hm ?_
  unfold r_feed_0
  refine ⟨⟨by omega, by omega⟩, fun hle => ?_, fun hgt => ?_⟩
  · have e0 : ∀ b y, b ≠ 0 → (u2 B 0 0 0) b y = B b y := fun b y q => u2_bank q
    refine R_four hm (n := B 2 0) (e0 2 0 (by decide)) h1 (by omega) (fun B1 a1 a2 a3 a4 a5 => ⟨rfl, ?_⟩)
    unfold r_feed_29
    refine R_four hm (n := B 2 0 + 4) a2 (by omega) (by omega) (fun B2 b1 b2 b3 b4 b5 => ⟨rfl, ?_⟩)
    unfold r_feed_34
    refine R_four hm (n := B 2 0 + 4 + 4) b2 (by omega) (by omega) (fun B3 c1 c2 c3 c4 c5 => ⟨rfl, ?_⟩)
    unfold r_feed_39
    refine R_four hm (n := B 2 0 + 4 + 4 + 4) c2 (by omega) (by omega) (fun B4 d1 d2 d3 d4 d5 => ⟨rfl, ?_⟩)
    unfold r_feed_45
    refine R_four hm (n := B 2 0 + 4 + 4 + 4 + 4) d2 (by omega) (by omega) (fun B5 f1 f2 f3 f4 f5 => ⟨rfl, ?_⟩)
    unfold r_feed_51
    have all : ∀ b y, b ≠ 0 → b ≠ 1 → b ≠ 2 → B5 b y = B b y := fun b y q0 q1 q2 => by rw [f1 b y q1 q2, d1 b y q1 q2, c1 b y q1 q2, b1 b y q1 q2, a1 b y q1 q2, e0 b y q0]
    have low : ∀ i, i < B 2 0 → B5 1 i = B 1 i := fun i hi => by rw [f3 i (by omega), d3 i (by omega), c3 i (by omega), b3 i (by omega), a3 i hi, e0 1 i (by decide)]
    have hig : ∀ i, B 2 0 + 20 ≤ i → B5 1 i = B 1 i := fun i hi => by rw [f4 i (by omega), d4 i (by omega), c4 i (by omega), b4 i (by omega), a4 i (by omega), e0 1 i (by decide)]
    have mid : ∀ j, 0 ≤ j → j < 20 → B5 1 (B 2 0 + j) = byt (fa x1 x2 x3 x4 x5 j) (24 - 8 * (j % 4)) := by
      intro j j0 j1
      unfold fa
      by_cases q1 : j < 4
      · rw [if_pos q1, f3 _ (by omega), d3 _ (by omega), c3 _ (by omega), b3 _ (by omega), a5 j j0 q1, show j % 4 = j by omega]
      · rw [if_neg q1]
        by_cases q2 : j < 8
        · rw [if_pos q2, f3 _ (by omega), d3 _ (by omega), c3 _ (by omega)]
          have := b5 (j - 4) (by omega) (by omega)
          rw [show B 2 0 + 4 + (j - 4) = B 2 0 + j by omega] at this
          rw [this, show j % 4 = j - 4 by omega]
        · rw [if_neg q2]
          by_cases q3 : j < 12
          · rw [if_pos q3, f3 _ (by omega), d3 _ (by omega)]
            have := c5 (j - 8) (by omega) (by omega)
            rw [show B 2 0 + 4 + 4 + (j - 8) = B 2 0 + j by omega] at this
            rw [this, show j % 4 = j - 8 by omega]
          · rw [if_neg q3]
            by_cases q4 : j < 16
            · rw [if_pos q4, f3 _ (by omega)]
              have := d5 (j - 12) (by omega) (by omega)
              rw [show B 2 0 + 4 + 4 + 4 + (j - 12) = B 2 0 + j by omega] at this
              rw [this, show j % 4 = j - 12 by omega]
            · rw [if_neg q4]
              have := f5 (j - 16) (by omega) (by omega)
              rw [show B 2 0 + 4 + 4 + 4 + 4 + (j - 16) = B 2 0 + j by omega] at this
              rw [this, show j % 4 = j - 16 by omega]
    have e2 : B5 2 0 = B 2 0 + 20 := by omega
    rw [e2]
    refine k2 hle B5 ?_ (by rw [f1 0 0 (by decide) (by decide), d1 0 0 (by decide) (by decide), c1 0 0 (by decide) (by decide), b1 0 0 (by decide) (by decide), a1 0 0 (by decide) (by decide), u2_same]) e2 (fun b y q q1 q2 => all b y (by unfold Pb at q; omega) q1 q2) low mid
    obtain ⟨g1, g2, g3, g4, g5, g6, g7, g8, g9, g10, g11, g12, g13, g14⟩ := hO
    refine ⟨by omega, fun i i0 i1 => ?_, fun i i0 i1 => by rw [all 4 i (by decide) (by decide) (by decide)]; exact g3 i i0 i1, fun p p0 p1 => ?_, fun x x0 x1 => by rw [all 5 x (by decide) (by decide) (by decide)]; exact g5 x x0 x1, fun t t0 t1 => by rw [all 9 t (by decide) (by decide) (by decide)]; exact g6 t t0 t1, by rw [all 14 0 (by decide) (by decide) (by decide)]; exact g7, fun i i0 i1 => by rw [all 10 i (by decide) (by decide) (by decide), all 11 i (by decide) (by decide) (by decide)]; exact g8 i i0 i1, fun y hy => by rw [all 31 y (by decide) (by decide) (by decide)]; exact g9 y hy, fun q q0 q1 => by rw [all 51 q (by decide) (by decide) (by decide)]; exact g10 q q0 q1, by rw [all 59 0 (by decide) (by decide) (by decide)]; exact g11, by rw [all 71 0 (by decide) (by decide) (by decide)]; exact g12, fun i i0 i1 => by rw [all 50 i (by decide) (by decide) (by decide)]; exact g13 i i0 i1, by rw [all 3 0 (by decide) (by decide) (by decide)]; exact g14⟩
    · by_cases q1 : i < B 2 0
      · rw [low i q1]; exact g2 i i0 i1
      · by_cases q2 : i < B 2 0 + 20
        · have := mid (i - B 2 0) (by omega) (by omega)
          rw [show B 2 0 + (i - B 2 0) = i by omega] at this
          rw [this]
          exact byt_bd _ _
        · rw [hig i (by omega)]; exact g2 i i0 i1
    · rw [all 6 p (by decide) (by decide) (by decide)]
      have := g4 p p0 p1
      exact ⟨this.1, this.2.1, fun q => PT_fr (fun i _ _ => all 4 _ (by decide) (by decide) (by decide)) (all 6 p (by decide) (by decide) (by decide)) (all 7 p (by decide) (by decide) (by decide)) (all 8 p (by decide) (by decide) (by decide)) (this.2.2 q)⟩
  · refine qZ.mono (d := d + 1) (R_refuse hm ⟨_, rfl, ?_⟩) (by omega) (fun _ _ q => q)
    unfold r_feed_18
    exact k1 (by omega)
theorem R_end (hm : m + 100 < 1000000000) {x : Int} (hx : R32 x) (hO : OI B) (k1 : ¬ (0 ≤ x ∧ x ≤ B 2 0) → Q (.inl (some (iv 0))) (u2 B 0 0 1)) (k2 : 0 ≤ x → x ≤ B 2 0 → OI (u2 (u2 B 0 0 0) 2 0 x) → Q (.inl (some (iv x))) (u2 (u2 B 0 0 0) 2 0 x)) : qZ m h0 (d + 2) k_end 0 [some (.ref m), some (iv x)] [] B Q := by
  have h1 := hO.1
  refine r_end_0_ok hm ?_
  unfold r_end_0
  refine R_in2 hm hx ⟨by decide, by decide⟩ ⟨by omega, by omega⟩ (fun q1 q2 => ⟨_, rfl, ?_⟩) (fun q => ⟨_, rfl, ?_⟩)
  · unfold r_end_9
    refine ⟨⟨by decide, by decide⟩, fun _ => k2 q1 q2 ?_, fun q => absurd q (by decide)⟩
    have hO2 := OI_0 (v := 0) hO
    generalize u2 B 0 0 0 = B1 at *
    obtain ⟨g1, g2, g3, g4, g5, g6, g7, g8, g9, g10, g11, g12, g13, g14⟩ := hO2
    have all : ∀ b y, b ≠ 2 → (u2 B1 2 0 x) b y = B1 b y := fun b y q => u2_bank q
    refine ⟨by rw [u2_same]; omega, fun i i0 i1 => by rw [all 1 i (by decide)]; exact g2 i i0 i1, fun i i0 i1 => by rw [all 4 i (by decide)]; exact g3 i i0 i1, fun p p0 p1 => ?_, fun x x0 x1 => by rw [all 5 x (by decide)]; exact g5 x x0 x1, fun t t0 t1 => by rw [all 9 t (by decide)]; exact g6 t t0 t1, by rw [all 14 0 (by decide)]; exact g7, fun i i0 i1 => by rw [all 10 i (by decide), all 11 i (by decide)]; exact g8 i i0 i1, fun y hy => by rw [all 31 y (by decide)]; exact g9 y hy, fun q q0 q1 => by rw [all 51 q (by decide)]; exact g10 q q0 q1, by rw [all 59 0 (by decide)]; exact g11, by rw [all 71 0 (by decide)]; exact g12, fun i i0 i1 => by rw [all 50 i (by decide)]; exact g13 i i0 i1, by rw [all 3 0 (by decide)]; exact g14⟩
    rw [all 6 p (by decide)]
    have := g4 p p0 p1
    exact ⟨this.1, this.2.1, fun q => PT_fr (fun i _ _ => all 4 _ (by decide)) (all 6 p (by decide)) (all 7 p (by decide)) (all 8 p (by decide)) (this.2.2 q)⟩
  · unfold r_end_9
    refine ⟨⟨by decide, by decide⟩, fun w => absurd rfl w, fun _ => ?_⟩
    refine R_refuse hm ⟨_, rfl, ?_⟩
    unfold r_end_17
    exact k1 q
theorem R_group (hm : m + 100 < 1000000000) {x y : Int} (hx : R32 x) (hy : R32 y) (hO : OI B) (k1 : ¬ ((0 ≤ x ∧ x ≤ 9) ∧ 0 ≤ y ∧ y ≤ 1) → Q (.inl (some (iv 0))) (u2 B 0 0 1)) (k2 : (0 ≤ x ∧ x ≤ 9) → (0 ≤ y ∧ y ≤ 1) → Q (.inl (some (iv (if B 71 0 = 0 then -1 else B 50 (2 * x + y))))) (u2 B 0 0 0)) : qZ m h0 (d + 2) k_group 0 [some (.ref m), some (iv x), some (iv y)] [] B Q := by
  have h12 := hO.2.2.2.2.2.2.2.2.2.2.2.1
  have ref : ¬ ((0 ≤ x ∧ x ≤ 9) ∧ 0 ≤ y ∧ y ≤ 1) → r_group_19 m h0 (d + 1) B Q := by
    intro q
    unfold r_group_19
    refine R_refuse hm ⟨_, rfl, ?_⟩
    unfold r_group_24
    exact k1 q
  refine r_group_0_ok hm ?_
  unfold r_group_0
  refine R_in2 hm hx ⟨by decide, by decide⟩ ⟨by decide, by decide⟩ (fun q1 q2 => ⟨_, rfl, ?_⟩) (fun q => ⟨_, rfl, ?_⟩)
  · unfold r_group_7
    refine ⟨⟨by decide, by decide⟩, fun q => absurd q (by decide), fun _ => ?_⟩
    refine R_in2 hm hy ⟨by decide, by decide⟩ ⟨by decide, by decide⟩ (fun q3 q4 => ⟨_, rfl, ?_⟩) (fun q => ⟨_, rfl, ?_⟩)
    · unfold r_group_16
      have k2' := k2 ⟨q1, q2⟩ ⟨q3, q4⟩
      refine ⟨⟨by decide, by decide⟩, fun _ => ⟨⟨by omega, by omega⟩, fun z => by rw [if_pos z] at k2'; exact k2', fun z => ⟨by omega, by omega, by rw [if_neg z] at k2'; exact k2'⟩⟩, fun q => absurd q (by decide)⟩
    · unfold r_group_16
      exact ⟨⟨by decide, by decide⟩, fun w => absurd rfl w, fun _ => ref (fun w => q w.2)⟩
  · unfold r_group_7
    exact ⟨⟨by decide, by decide⟩, fun _ => ref (fun w => q w.1), fun w => absurd rfl w⟩
theorem R_found (hm : m + 100 < 1000000000) {x y : Int} (hx : R32 x) (hy : R32 y) (hO : OI B) (k1 : ¬ (0 ≤ y ∧ y ≤ 1) → Q (.inl (some (iv 0))) (u2 B 0 0 1)) (k2 : (0 ≤ y ∧ y ≤ 1) → ¬ (0 ≤ x ∧ x < B 14 0) → Q (.inl (some (iv 0))) (u2 B 0 0 2)) (k3 : (0 ≤ y ∧ y ≤ 1) → (0 ≤ x ∧ x < B 14 0) → Q (.inl (some (iv (if y = 0 then B 10 x else B 11 x)))) (u2 B 0 0 0)) : qZ m h0 (d + 2) k_found 0 [some (.ref m), some (iv x), some (iv y)] [] B Q := by
  have h7 := hO.2.2.2.2.2.2.1
  refine r_found_0_ok hm ?_
  unfold r_found_0
  refine R_in2 hm hy ⟨by decide, by decide⟩ ⟨by decide, by decide⟩ (fun q1 q2 => ⟨_, rfl, ?_⟩) (fun q => ⟨_, rfl, ?_⟩)
  · unfold r_found_6
    refine ⟨⟨by decide, by decide⟩, fun _ => ?_, fun q => absurd q (by decide)⟩
    refine R_in2 hm hx ⟨by decide, by decide⟩ ⟨by omega, by omega⟩ (fun q3 q4 => ⟨_, rfl, ?_⟩) (fun q => ⟨_, rfl, ?_⟩)
    · unfold r_found_26
      have k3' := k3 ⟨q1, q2⟩ ⟨q3, by omega⟩
      exact ⟨⟨by decide, by decide⟩, fun _ => ⟨hy, fun z => ⟨q3, by omega, by rw [if_neg z] at k3'; exact k3'⟩, fun z => ⟨q3, by omega, by rw [if_pos z] at k3'; exact k3'⟩⟩, fun q => absurd q (by decide)⟩
    · unfold r_found_26
      refine ⟨⟨by decide, by decide⟩, fun w => absurd rfl w, fun _ => ?_⟩
      refine R_refuse hm ⟨_, rfl, ?_⟩
      unfold r_found_34
      exact k2 ⟨q1, q2⟩ (fun w => q ⟨w.1, by omega⟩)
  · unfold r_found_6
    refine ⟨⟨by decide, by decide⟩, fun w => absurd rfl w, fun _ => ?_⟩
    refine R_refuse hm ⟨_, rfl, ?_⟩
    unfold r_found_14
    exact k1 q
theorem R_count (hm : m + 100 < 1000000000) {x : Int} (hx : R32 x) (hO : OI B) (k1 : ¬ ((0 ≤ x ∧ x ≤ 2) ∨ (10 ≤ x ∧ x ≤ 17) ∨ (20 ≤ x ∧ x ≤ 23) ∨ (30 ≤ x ∧ x ≤ 37)) → Q (.inl (some (iv 0))) (u2 B 0 0 1)) (k2 : ((0 ≤ x ∧ x ≤ 2) ∨ (10 ≤ x ∧ x ≤ 17) ∨ (20 ≤ x ∧ x ≤ 23) ∨ (30 ≤ x ∧ x ≤ 37)) → Q (.inl (some (iv (if x = 0 then B 2 0 else if x = 1 then B 3 0 else if x = 2 then B 14 0 else if x < 20 then (if B 6 (x - 10) = 0 then -1 else B 7 (x - 10)) else if x < 30 then B 9 (x - 20) else if B 6 (x - 30) = 0 then -1 else B 8 (x - 30))))) (u2 B 0 0 0)) : qZ m h0 (d + 2) k_count 0 [some (.ref m), some (iv x)] [] B Q := by
  have h4 := hO.2.2.2.1
  have go : ((0 ≤ x ∧ x ≤ 2) ∨ (10 ≤ x ∧ x ≤ 17) ∨ (20 ≤ x ∧ x ≤ 23) ∨ (30 ≤ x ∧ x ≤ 37)) → r_count_48 m h0 (d + 1) x B Q := by
    intro hr
    have k := k2 hr
    unfold r_count_48
    refine ⟨hx, fun n0 => ⟨fun n1 => ⟨fun n2 => ⟨fun g20 => ⟨fun g30 => ?_, fun l30 => ?_⟩, fun l20 => ?_⟩, fun e2 => ?_⟩, fun e1 => ?_⟩, fun e0 => ?_⟩
    · rw [if_neg n0, if_neg n1, if_neg n2, if_neg (by omega), if_neg (by omega)] at k
      have := h4 (x - 30) (by omega) (by omega)
      exact ⟨by omega, by omega, ⟨by omega, by omega⟩, fun z => by rw [if_neg z] at k; exact k, fun z => by rw [if_pos z] at k; exact k⟩
    · rw [if_neg n0, if_neg n1, if_neg n2, if_neg (by omega), if_pos l30] at k
      exact ⟨by omega, by omega, k⟩
    · rw [if_neg n0, if_neg n1, if_neg n2, if_pos l20] at k
      have := h4 (x - 10) (by omega) (by omega)
      exact ⟨by omega, by omega, ⟨by omega, by omega⟩, fun z => by rw [if_neg z] at k; exact k, fun z => by rw [if_pos z] at k; exact k⟩
    · rw [if_neg n0, if_neg n1, if_pos e2] at k; exact k
    · rw [if_neg n0, if_pos e1] at k; exact k
    · rw [if_pos e0] at k; exact k
  refine r_count_0_ok hm ?_
  unfold r_count_0
  refine R_in2 hm hx ⟨by decide, by decide⟩ ⟨by decide, by decide⟩ (fun q1 q2 => ⟨_, rfl, ?_⟩) (fun q => ⟨_, rfl, ?_⟩)
  · unfold r_count_6
    exact ⟨⟨by decide, by decide⟩, fun _ => go (by omega), fun q => absurd q (by decide)⟩
  · unfold r_count_6
    refine ⟨⟨by decide, by decide⟩, fun w => absurd rfl w, fun _ => ?_⟩
    refine R_in2 hm hx ⟨by decide, by decide⟩ ⟨by decide, by decide⟩ (fun q1 q2 => ⟨_, rfl, ?_⟩) (fun q' => ⟨_, rfl, ?_⟩)
    · unfold r_count_17
      exact ⟨⟨by decide, by decide⟩, fun _ => go (by omega), fun q => absurd q (by decide)⟩
    · unfold r_count_17
      refine ⟨⟨by decide, by decide⟩, fun w => absurd rfl w, fun _ => ?_⟩
      refine R_in2 hm hx ⟨by decide, by decide⟩ ⟨by decide, by decide⟩ (fun q1 q2 => ⟨_, rfl, ?_⟩) (fun q'' => ⟨_, rfl, ?_⟩)
      · unfold r_count_28
        exact ⟨⟨by decide, by decide⟩, fun _ => go (by omega), fun q => absurd q (by decide)⟩
      · unfold r_count_28
        refine ⟨⟨by decide, by decide⟩, fun w => absurd rfl w, fun _ => ?_⟩
        refine R_in2 hm hx ⟨by decide, by decide⟩ ⟨by decide, by decide⟩ (fun q1 q2 => ⟨_, rfl, ?_⟩) (fun q3 => ⟨_, rfl, ?_⟩)
        · unfold r_count_39
          exact ⟨⟨by decide, by decide⟩, fun _ => go (by omega), fun q => absurd q (by decide)⟩
        · unfold r_count_39
          refine ⟨⟨by decide, by decide⟩, fun w => absurd rfl w, fun _ => ?_⟩
          refine R_refuse hm ⟨_, rfl, ?_⟩
          unfold r_count_47
          exact k1 (by omega)
end CALLS
