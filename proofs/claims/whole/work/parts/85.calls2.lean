/-! THE REFERENCE'S CALLS: text, word, pattern -/
theorem OI_gen {B B' : qB} (h : OI B) (f : ∀ b y, (b = 4 ∨ b = 6 ∨ b = 7 ∨ b = 8 ∨ b = 59 ∨ (b = 31 ∧ y < 0)) → B' b y = B b y) (h1 : 0 ≤ B' 2 0 ∧ B' 2 0 ≤ 1200) (h2 : ∀ i, 0 ≤ i → i < 1200 → 0 ≤ B' 1 i ∧ B' 1 i < 256) (h5 : ∀ x, 0 ≤ x → x < 4000 → 0 ≤ B' 5 x ∧ B' 5 x < 256) (h6 : ∀ t, 0 ≤ t → t < 4 → 0 ≤ B' 9 t ∧ B' 9 t ≤ 1000) (h7 : 0 ≤ B' 14 0 ∧ B' 14 0 ≤ 1001) (h8 : ∀ i, 0 ≤ i → i < 1001 → (0 ≤ B' 10 i ∧ B' 10 i ≤ 1000) ∧ 0 ≤ B' 11 i ∧ B' 11 i ≤ 1000) (h10 : MR B') (h12 : B' 71 0 = 0 ∨ B' 71 0 = 1) (h13 : ∀ i, 0 ≤ i → i < 20 → -1 ≤ B' 50 i ∧ B' 50 i ≤ 1000) (h14 : -1 ≤ B' 3 0 ∧ B' 3 0 ≤ 5000) : OI B' := by
  obtain ⟨g1, g2, g3, g4, g5, g6, g7, g8, g9, g10, g11, g12, g13, g14⟩ := h
  refine ⟨h1, h2, fun i i0 i1 => by rw [f 4 i (by omega)]; exact g3 i i0 i1, fun p p0 p1 => ?_, h5, h6, h7, h8, fun y hy => by rw [f 31 y (by omega)]; exact g9 y hy, h10, by rw [f 59 0 (by omega)]; exact g11, h12, h13, h14⟩
  rw [f 6 p (by omega)]
  have := g4 p p0 p1
  exact ⟨this.1, this.2.1, fun q => PT_fr (fun i _ _ => f 4 _ (by omega)) (f 6 p (by omega)) (f 7 p (by omega)) (f 8 p (by omega)) (this.2.2 q)⟩
section CALLS2
variable {m : Nat} {h0 : qH} {d : Nat} {B : qB} {Q : qO → qB → Prop}
/-- all but what is read and the tape's length -/
def Tk (B B' : qB) : Prop := (∀ b y, b ≠ 2 → b ≠ 15 → b ≠ 16 → B' b y = B b y) ∧ B' 2 0 = 0 ∧ B' 16 0 = B 2 0 ∧ ∀ i, 0 ≤ i → i < B 2 0 → B' 15 i = B 1 i
theorem OI_tk {B' : qB} (h : OI B) (t : Tk B B') : OI B' := by
  obtain ⟨t1, t2, t3, t4⟩ := t
  have h' := h
  obtain ⟨g1, g2, g3, g4, g5, g6, g7, g8, g9, g10, g11, g12, g13, g14⟩ := h
  exact OI_gen h' (fun b y q => t1 b y (by omega) (by omega) (by omega)) (by omega) (fun i i0 i1 => by rw [t1 1 i (by decide) (by decide) (by decide)]; exact g2 i i0 i1) (fun x x0 x1 => by rw [t1 5 x (by decide) (by decide) (by decide)]; exact g5 x x0 x1) (fun x x0 x1 => by rw [t1 9 x (by decide) (by decide) (by decide)]; exact g6 x x0 x1) (by rw [t1 14 0 (by decide) (by decide) (by decide)]; exact g7) (fun i i0 i1 => by rw [t1 10 i (by decide) (by decide) (by decide), t1 11 i (by decide) (by decide) (by decide)]; exact g8 i i0 i1) (fun q q0 q1 => by rw [t1 51 q (by decide) (by decide) (by decide)]; exact g10 q q0 q1) (by rw [t1 71 0 (by decide) (by decide) (by decide)]; exact g12) (fun i i0 i1 => by rw [t1 50 i (by decide) (by decide) (by decide)]; exact g13 i i0 i1) (by rw [t1 3 0 (by decide) (by decide) (by decide)]; exact g14)
theorem R_take (hm : m + 100 < 1000000000) (hO : OI B) (k : ∀ B', Tk B B' → Q (.inl none) B') : qZ m h0 (d + 1) k_take 0 [some (.ref m), none] [] B Q := by
  have h1 := hO.1
  have L : ∀ (N : Nat) (x : Int) (Bk : qB), 0 ≤ x → x + N = B 2 0 → (∀ b y, b ≠ 15 → Bk b y = B b y) → (∀ i, 0 ≤ i → i < x → Bk 15 i = B 1 i) → qZ m h0 (d + 1) k_take 2 [some (.ref m), some (iv x)] [] Bk Q := by
    intro N
    induction N with
    | zero =>
      intro x Bk x0 hx e1 e2
      refine r_take_2_ok hm ?_
      unfold r_take_2
      rw [e1 2 0 (by decide)]
      refine ⟨⟨by omega, by omega⟩, ⟨by omega, by omega⟩, fun _ => k _ ⟨fun b y q1 q2 q3 => by rw [u2_bank q1, u2_bank q3]; exact e1 b y q2, u2_same, by rw [u2_bank (by decide), u2_same], fun i i0 i1 => by rw [u2_bank (by decide), u2_bank (by decide)]; exact e2 i i0 (by omega)⟩, fun q => by omega⟩
    | succ N ih =>
      intro x Bk x0 hx e1 e2
      refine r_take_2_ok hm ?_
      unfold r_take_2
      rw [e1 2 0 (by decide)]
      refine ⟨⟨by omega, by omega⟩, ⟨by omega, by omega⟩, fun q => by omega, fun _ => ⟨x0, by omega, ih (x + 1) _ (by omega) (by omega) (fun b y q => by rw [u2_bank q]; exact e1 b y q) (fun i i0 i1 => ?_)⟩⟩
      by_cases e : i = x
      · subst e; rw [u2_same]; exact e1 1 i (by decide)
      · rw [u2_idx e]; exact e2 i i0 (by omega)
  refine r_take_0_ok hm ?_
  unfold r_take_0
  exact L (B 2 0).toNat 0 B (Int.le_refl _) (by omega) (fun _ _ _ => rfl) (fun i i0 i1 => by omega)
theorem R_text (hm : m + 100 < 1000000000) {t : Int} (ht : R32 t) (hO : OI B)
    (k1 : ¬ (0 ≤ t ∧ t ≤ 3) → ∀ B', OI B' → B' 0 0 = 1 → (∀ b y, Pb b y → b ≠ 2 → B' b y = B b y) → B' 2 0 = 0 → Q (.inl (some (iv 0))) B')
    (k2 : (0 ≤ t ∧ t ≤ 3) → 1000 < B 2 0 → ∀ B', OI B' → B' 0 0 = 2 → (∀ b y, Pb b y → b ≠ 2 → B' b y = B b y) → B' 2 0 = 0 → Q (.inl (some (iv 0))) B')
    (k3 : (0 ≤ t ∧ t ≤ 3) → B 2 0 ≤ 1000 → ∀ B', OI B' → B' 0 0 = 0 → B' 2 0 = 0 → (∀ b y, Pb b y → b ≠ 2 → b ≠ 5 → b ≠ 9 → B' b y = B b y) → B' 9 t = B 2 0 → (∀ s, s ≠ t → B' 9 s = B 9 s) → (∀ i, 0 ≤ i → i < B 2 0 → B' 5 (1000 * t + i) = B 1 i) → (∀ x, ¬ (1000 * t ≤ x ∧ x < 1000 * t + B 2 0) → B' 5 x = B 5 x) → Q (.inl (some (iv (B 2 0)))) B') : qZ m h0 (d + 2) k_text 0 [some (.ref m), some (iv t), none] [] B Q := by
  have h1 := hO.1
  refine r_text_0_ok hm ?_
  unfold r_text_0
  refine R_take hm hO (fun B1 hT => ⟨rfl, ?_⟩)
  have hO1 := OI_tk hO hT
  obtain ⟨t1, t2, t3, t4⟩ := hT
  unfold r_text_4
  have fr : ∀ v, ∀ b y, Pb b y → b ≠ 2 → (u2 B1 0 0 v) b y = B b y := fun v b y q q2 => by rw [u2_bank (by unfold Pb at q; omega)]; exact t1 b y q2 (by unfold Pb at q; omega) (by unfold Pb at q; omega)
  refine R_in2 hm ht ⟨by decide, by decide⟩ ⟨by decide, by decide⟩ (fun q1 q2 => ⟨_, rfl, ?_⟩) (fun q => ⟨_, rfl, ?_⟩)
  · unfold r_text_10
    rw [t3]
    refine ⟨⟨by decide, by decide⟩, fun _ => ⟨⟨by omega, by omega⟩, fun hle => ?_, fun hgt => ?_⟩, fun q => absurd q (by decide)⟩
    · have L : ∀ (N : Nat) (x : Int) (Bk : qB), 0 ≤ x → x + N = B 2 0 → (∀ b y, b ≠ 5 → Bk b y = (u2 B1 0 0 0) b y) → (∀ i, 0 ≤ i → i < x → Bk 5 (1000 * t + i) = B 1 i) → (∀ z, ¬ (1000 * t ≤ z ∧ z < 1000 * t + x) → Bk 5 z = B 5 z) → qZ m h0 (d + 2) k_text 42 [some (.ref m), some (iv t), some (iv x)] [] Bk Q := by
        intro N
        induction N with
        | zero =>
          intro x Bk x0 hx e1 e2 e3
          have e16 : Bk 16 0 = B 2 0 := by rw [e1 16 0 (by decide), u2_bank (by decide)]; exact t3
          refine r_text_42_ok hm ?_
          unfold r_text_42
          rw [e16]
          have al : ∀ b y, Pb b y → b ≠ 2 → b ≠ 5 → b ≠ 9 → (u2 Bk 9 t (B 2 0)) b y = B b y := fun b y q n2 n5 n9 => by rw [u2_bank n9, e1 b y n5]; exact fr 0 b y q n2
          have e5 : ∀ i, 0 ≤ i → i < B 2 0 → (u2 Bk 9 t (B 2 0)) 5 (1000 * t + i) = B 1 i := fun i i0 i1 => by rw [u2_bank (by decide)]; exact e2 i i0 (by omega)
          have e6 : ∀ z, ¬ (1000 * t ≤ z ∧ z < 1000 * t + B 2 0) → (u2 Bk 9 t (B 2 0)) 5 z = B 5 z := fun z hz => by rw [u2_bank (by decide)]; exact e3 z (by omega)
          have e9 : ∀ s, s ≠ t → (u2 Bk 9 t (B 2 0)) 9 s = B 9 s := fun s hs => by rw [u2_idx hs, e1 9 s (by decide)]; exact fr 0 9 s (by unfold Pb; omega) (by decide)
          have e20 : (u2 Bk 9 t (B 2 0)) 2 0 = 0 := by rw [u2_bank (by decide), e1 2 0 (by decide), u2_bank (by decide)]; exact t2
          have e31 : ∀ y, (u2 Bk 9 t (B 2 0)) 31 y = B 31 y := fun y => by rw [u2_bank (by decide), e1 31 y (by decide), u2_bank (by decide)]; exact t1 31 y (by decide) (by decide) (by decide)
          have e59 : ∀ y, (u2 Bk 9 t (B 2 0)) 59 y = B 59 y := fun y => by rw [u2_bank (by decide), e1 59 y (by decide), u2_bank (by decide)]; exact t1 59 y (by decide) (by decide) (by decide)
          have e51 : ∀ y, (u2 Bk 9 t (B 2 0)) 51 y = B 51 y := fun y => by rw [u2_bank (by decide), e1 51 y (by decide), u2_bank (by decide)]; exact t1 51 y (by decide) (by decide) (by decide)
          have e00 : (u2 Bk 9 t (B 2 0)) 0 0 = 0 := by rw [u2_bank (by decide), e1 0 0 (by decide), u2_same]
          have e99 : (u2 Bk 9 t (B 2 0)) 9 t = B 2 0 := u2_same
          refine ⟨⟨by omega, by omega⟩, ⟨by omega, by omega⟩, fun _ => ⟨q1, by omega, ?_⟩, fun q => by omega⟩
          generalize u2 Bk 9 t (B 2 0) = Bz at *
          refine k3 ⟨q1, q2⟩ hle Bz ?_ e00 e20 al e99 e9 e5 e6
          obtain ⟨g1, g2, g3, g4, g5, g6, g7, g8, g9, g10, g11, g12, g13, g14⟩ := hO
          have a : ∀ b y, (b = 1 ∨ b = 3 ∨ b = 4 ∨ b = 6 ∨ b = 7 ∨ b = 8 ∨ b = 10 ∨ b = 11 ∨ b = 14 ∨ b = 50 ∨ b = 71) → Bz b y = B b y := fun b y q => al b y (by unfold Pb; omega) (by omega) (by omega) (by omega)
          refine OI_gen ⟨g1, g2, g3, g4, g5, g6, g7, g8, g9, g10, g11, g12, g13, g14⟩ (fun b y q => ?_) (by omega) (fun i i0 i1 => by rw [a 1 i (by omega)]; exact g2 i i0 i1) (fun z z0 z1 => ?_) (fun s s0 s1 => ?_) (by rw [a 14 0 (by omega)]; exact g7) (fun i i0 i1 => by rw [a 10 i (by omega), a 11 i (by omega)]; exact g8 i i0 i1) (fun q q0 q1 => by rw [e51 q]; exact g10 q q0 q1) (by rw [a 71 0 (by omega)]; exact g12) (fun i i0 i1 => by rw [a 50 i (by omega)]; exact g13 i i0 i1) (by rw [a 3 0 (by omega)]; exact g14)
          · rcases q with q | q | q | q | q | q
            · exact a b y (by omega)
            · exact a b y (by omega)
            · exact a b y (by omega)
            · exact a b y (by omega)
            · subst q; exact e59 y
            · rw [q.1]; exact e31 y
          · by_cases hz : 1000 * t ≤ z ∧ z < 1000 * t + B 2 0
            · have := e5 (z - 1000 * t) (by omega) (by omega)
              rw [show 1000 * t + (z - 1000 * t) = z by omega] at this
              rw [this]
              exact g2 _ (by omega) (by omega)
            · rw [e6 z hz]; exact g5 z z0 z1
          · by_cases hs : s = t
            · subst hs; rw [e99]; omega
            · rw [e9 s hs]; exact g6 s s0 s1
        | succ N ih =>
          intro x Bk x0 hx e1 e2 e3
          have e16 : Bk 16 0 = B 2 0 := by rw [e1 16 0 (by decide), u2_bank (by decide)]; exact t3
          have e15 : Bk 15 x = B 1 x := by rw [e1 15 x (by decide), u2_bank (by decide)]; exact t4 x x0 (by omega)
          refine r_text_42_ok hm ?_
          unfold r_text_42
          rw [e16, e15]
          refine ⟨⟨by omega, by omega⟩, ⟨by omega, by omega⟩, fun q => by omega, fun _ => ⟨x0, by omega, by omega, by omega, ih (x + 1) _ (by omega) (by omega) (fun b y q => by rw [u2_bank q]; exact e1 b y q) (fun i i0 i1 => ?_) (fun z hz => by rw [u2_idx (by omega)]; exact e3 z (by omega))⟩⟩
          by_cases e : i = x
          · subst e; rw [u2_same]
          · rw [u2_idx (by omega)]; exact e2 i i0 (by omega)
      exact L (B 2 0).toNat 0 _ (Int.le_refl _) (by omega) (fun _ _ _ => rfl) (fun i i0 i1 => by omega) (fun z _ => by rw [u2_bank (by decide)]; exact t1 5 z (by decide) (by decide) (by decide))
    · refine R_refuse hm ⟨_, rfl, ?_⟩
      unfold r_text_34
      exact k2 ⟨q1, q2⟩ (by omega) _ (OI_0 hO1) u2_same (fr 2) (by rw [u2_bank (by decide)]; exact t2)
  · unfold r_text_10
    refine ⟨⟨by decide, by decide⟩, fun w => absurd rfl w, fun _ => ?_⟩
    refine R_refuse hm ⟨_, rfl, ?_⟩
    unfold r_text_18
    exact k1 q _ (OI_0 hO1) u2_same (fr 1) (by rw [u2_bank (by decide)]; exact t2)
/-- eight bytes in one number -/
def wds (f : Int → Int) (n : Int) : Nat → Int → Int → Int
  | 0, _, v => v
  | N + 1, k, v => wds f n N (k + 1) (lOr (lShl v 8) (if k < n then f k else 0))
theorem R_word (hm : m + 100 < 1000000000) {t i : Int} (ht : R32 t) (hi : R32 i) (hO : OI B)
    (k1 : ¬ (0 ≤ t ∧ t ≤ 3) → Q (.inl (some (wv 0))) (u2 B 0 0 1))
    (k2 : (0 ≤ t ∧ t ≤ 3) → ¬ (0 ≤ i ∧ i < B 9 t) → Q (.inl (some (wv 0))) (u2 B 0 0 2))
    (k3 : (0 ≤ t ∧ t ≤ 3) → (0 ≤ i ∧ i < B 9 t) → Q (.inl (some (wv (wds (fun k => B 5 (1000 * t + k)) (B 9 t) 8 i 0)))) (u2 B 0 0 0)) : qZ m h0 (d + 2) k_word 0 [some (.ref m), some (iv t), some (iv i), none, none, none] [] B Q := by
  have h6 := hO.2.2.2.2.2.1
  have h5 := hO.2.2.2.2.1
  refine r_word_0_ok hm ?_
  unfold r_word_0
  refine R_in2 hm ht ⟨by decide, by decide⟩ ⟨by decide, by decide⟩ (fun q1 q2 => ⟨_, rfl, ?_⟩) (fun q => ⟨_, rfl, ?_⟩)
  · have hn := h6 t q1 (by omega)
    unfold r_word_6
    refine ⟨⟨by decide, by decide⟩, fun _ => ⟨q1, by omega, ?_⟩, fun q => absurd q (by decide)⟩
    refine R_in2 hm hi ⟨by decide, by decide⟩ ⟨by omega, by omega⟩ (fun q3 q4 => ⟨_, rfl, ?_⟩) (fun q => ⟨_, rfl, ?_⟩)
    · unfold r_word_29
      refine ⟨⟨by decide, by decide⟩, fun _ => ?_, fun q => absurd q (by decide)⟩
      have k := k3 ⟨q1, q2⟩ ⟨q3, by omega⟩
      have a : ∀ b y, b ≠ 0 → (u2 B 0 0 0) b y = B b y := fun b y q => u2_bank q
      generalize u2 B 0 0 0 = B1 at *
      have L : ∀ (N : Nat) (x v : Int), x + N = i + 8 → i ≤ x → wds (fun k => B 5 (1000 * t + k)) (B 9 t) N x v = wds (fun k => B 5 (1000 * t + k)) (B 9 t) 8 i 0 → qZ m h0 (d + 2) k_word 49 [some (.ref m), some (iv t), some (iv i), some (wv v), none, some (iv x)] [] B1 Q := by
        intro N
        induction N with
        | zero =>
          intro x v hx hix e
          refine r_word_49_ok hm ?_
          unfold r_word_49
          refine ⟨⟨by omega, by omega⟩, ⟨by omega, by omega⟩, fun _ => ?_, fun q => by omega⟩
          rw [← e] at k
          exact k
        | succ N ih =>
          intro x v hx hix e
          refine r_word_49_ok hm ?_
          unfold r_word_49
          rw [a 9 t (by decide)]
          refine ⟨⟨by omega, by omega⟩, ⟨by omega, by omega⟩, fun q => by omega, fun _ => ⟨q1, by omega, ⟨by omega, by omega⟩, fun hge => ?_, fun hlt => ⟨by omega, by omega, ?_⟩⟩⟩
          · unfold r_word_90
            refine ⟨⟨by decide, by decide⟩, ih (x + 1) _ (by omega) (by omega) ?_⟩
            rw [← e]
            show _ = wds _ _ N (x + 1) (lOr (lShl v 8) (if x < B 9 t then B 5 (1000 * t + x) else 0))
            rw [if_neg (by omega)]
          · have hb := h5 (1000 * t + x) (by omega) (by omega)
            unfold r_word_90
            rw [a 5 _ (by decide)]
            refine ⟨⟨by omega, by omega⟩, ih (x + 1) _ (by omega) (by omega) ?_⟩
            rw [← e]
            show _ = wds _ _ N (x + 1) (lOr (lShl v 8) (if x < B 9 t then B 5 (1000 * t + x) else 0))
            rw [if_pos (by omega)]
      exact L 8 i 0 (by omega) (Int.le_refl _) rfl
    · unfold r_word_29
      refine ⟨⟨by decide, by decide⟩, fun w => absurd rfl w, fun _ => ?_⟩
      refine R_refuse hm ⟨_, rfl, ?_⟩
      unfold r_word_37
      exact ⟨⟨by decide, by decide⟩, k2 ⟨q1, q2⟩ (fun w => q ⟨w.1, by omega⟩)⟩
  · unfold r_word_6
    refine ⟨⟨by decide, by decide⟩, fun w => absurd rfl w, fun _ => ?_⟩
    refine R_refuse hm ⟨_, rfl, ?_⟩
    unfold r_word_14
    exact ⟨⟨by decide, by decide⟩, k1 q⟩
end CALLS2
