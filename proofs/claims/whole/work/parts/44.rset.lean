/-! THE REFERENCE READS NUMBERS AND SETS -/
def SE (B : qB) (s : Int) (P : Nat → Bool) : Prop := ∀ c, 0 ≤ c → c < 256 → hasB B s c = P c.toNat
def incB (B : qB) (s c : Int) : qB := u2 B 27 (4 * s + c / 64) (lOr (B 27 (4 * s + c / 64)) (lShl 1 (c % 64)))
/-- what a set's making leaves as it is -/
def SS (s : Int) (b : Nat) (y : Int) : Prop := b ≠ 33 ∧ ¬ (b = 27 ∧ 4 * s ≤ y ∧ y < 4 * s + 4)
def LSt (B : qB) (s : Int) (B' : qB) (a : Int) (P : Nat → Bool) : Prop := FrS (SS s) B B' ∧ B' 33 0 = a ∧ SE B' s P
/-- what even a broken pattern leaves as it is -/
def Kp (b : Nat) (_ : Int) : Prop := b ≤ 16 ∨ b = 31 ∨ b = 32 ∨ 42 ≤ b
def Er (B B' : qB) (f : Int) : Prop := B' 35 0 = f ∧ FrS Kp B B' ∧ 0 ≤ B' 33 0 ∧ B' 33 0 ≤ 5000 ∧ f ≤ 5000
theorem Er_mk {B B1 : qB} {w : Int} (fk : FrS Kp B B1) (h1 : 0 ≤ B1 33 0) (h2 : B1 33 0 ≤ 5000) (hw : w ≤ 5000) : Er B (u2 B1 35 0 w) w := ⟨u2_same, FrS.u2 fk (by unfold Kp; omega), by rw [u2_bank (by decide)]; exact h1, by rw [u2_bank (by decide)]; exact h2, hw⟩
section RSET
variable {m : Nat} {h0 : qH} {d : Nat} {B : qB} {Q : qO → qB → Prop}
theorem SE_inc {B : qB} {s c : Int} {P : Nat → Bool} (hc1 : 0 ≤ c) (hc2 : c < 256) (h : SE B s P) : SE (incB B s c) s (fun x => P x || decide ((x : Int) = c)) := by
  intro c' h1 h2
  unfold incB
  rw [hasB_inc hc1 hc2 c' h1 h2, h c' h1 h2]
  show (P c'.toNat || decide (c' = c)) = (P c'.toNat || decide ((c'.toNat : Int) = c))
  rw [show ((c'.toNat : Nat) : Int) = c' by omega]
theorem SS_inc {B B' : qB} {s c : Int} (h : FrS (SS s) B B') (hc1 : 0 ≤ c) (hc2 : c < 256) : FrS (SS s) B (incB B' s c) := FrS.u2 h (by unfold SS; omega)
theorem SE_ext {B : qB} {s : Int} {P P' : Nat → Bool} (h : SE B s P) (e : ∀ c, c < 256 → P c = P' c) : SE B s P' := fun c h1 h2 => (h c h1 h2).trans (e _ (by omega))
theorem SE_u2 {B : qB} {s : Int} {P : Nat → Bool} {j : Nat} {x z : Int} (h : SE B s P) (hj : j ≠ 27) : SE (u2 B j x z) s P := by
  intro c h1 h2
  rw [← h c h1 h2]
  unfold hasB
  rw [u2_bank (Ne.symm hj)]
theorem R_include (hm : m + 100 < 1000000000) {s c : Int} (hs1 : 0 ≤ s) (hs2 : s < 256) (hc1 : 0 ≤ c) (hc2 : c < 256) (k : Q (.inl none) (incB B s c)) : qZ m h0 (d + 1) k_include 0 [some (.ref m), some (iv s), some (iv c)] [] B Q := by
  refine r_include_0_ok hm ?_
  unfold r_include_0
  rw [c_shr hc1 hc2, c_and hc1 hc2]
  exact ⟨by omega, by omega, k⟩
theorem R_newSet (hm : m + 100 < 1000000000) (h1 : 0 ≤ B 29 0) (h2 : B 29 0 < 256) (k : ∀ B1, FrS (SS (B 29 0)) B B1 → B1 33 0 = B 33 0 → SE B1 (B 29 0) (fun _ => false) → Q (.inl (some (iv (B 29 0)))) (u2 B1 29 0 (B 29 0 + 1))) : qZ m h0 (d + 1) k_newSet 0 [some (.ref m), none] [] B Q := by
  have L : ∀ (n : Nat) (x : Int) (B1 : qB), x + n = 4 → 0 ≤ x → FrS (SS (B 29 0)) B B1 → B1 33 0 = B 33 0 → (∀ y, 4 * B 29 0 ≤ y → y < 4 * B 29 0 + x → B1 27 y = 0) → qZ m h0 (d + 1) k_newSet 2 [some (.ref m), some (iv x)] [] B1 Q := by
    intro n
    induction n with
    | zero =>
      intro x B1 hx hx0 hf ha hz
      have e29 : B1 29 0 = B 29 0 := hf 29 0 (by unfold SS; omega)
      refine r_newSet_2_ok hm ?_
      unfold r_newSet_2
      rw [e29]
      refine ⟨⟨by omega, by omega⟩, fun _ => ?_, fun q => by omega⟩
      rw [show B 29 0 + 1 - 1 = B 29 0 by omega]
      refine k B1 hf ha (fun c c1 c2 => ?_)
      unfold hasB
      rw [hz _ (by omega) (by omega), lb_0]
    | succ n ih =>
      intro x B1 hx hx0 hf ha hz
      have e29 : B1 29 0 = B 29 0 := hf 29 0 (by unfold SS; omega)
      refine r_newSet_2_ok hm ?_
      unfold r_newSet_2
      rw [e29]
      refine ⟨⟨by omega, by omega⟩, fun q => by omega, fun _ => ⟨by omega, by omega, ih (x + 1) _ (by omega) (by omega) (FrS.u2 hf (by unfold SS; omega)) ?_ (fun y y1 y2 => ?_)⟩⟩
      · rw [u2_bank (by omega)]; exact ha
      · by_cases e : y = 4 * B 29 0 + x
        · rw [e, u2_same]
        · rw [u2_idx e]; exact hz y y1 (by omega)
  refine r_newSet_0_ok hm ?_
  unfold r_newSet_0
  exact L 4 0 B (by omega) (by omega) FrS.refl rfl (fun y y1 y2 => by omega)
theorem dg_iff {v s : Int} (h : SgV v s) : (decide (48 ≤ v) && decide (v ≤ 57)) = isDg s := by
  unfold SgV at h
  unfold isDg
  rw [Bool.eq_iff_iff]
  simp
  omega
theorem R_number (hm : m + 100 < 1000000000) (hp : PO B) (hf : B 35 0 = -1) (h1 : 1 ≤ B 33 0) (h2 : B 33 0 ≤ 201)
    (kE : ∀ v a, 0 ≤ a → a ≤ 201 → sNm (sgB B) (B 33 0) = .error (B 33 0) → Q (.inl (some (iv v))) (u2 (u2 B 33 0 a) 35 0 (B 33 0)))
    (kO : ∀ v a, sNm (sgB B) (B 33 0) = .ok (v, a) → 0 ≤ v → v ≤ 20 → B 33 0 < a → a ≤ 200 → Q (.inl (some (iv v))) (u2 B 33 0 a)) : qZ m h0 (d + 2) k_number 0 [some (.ref m), none, none] [] B Q := by
  have c : ∀ z : Int, 0 ≤ z → z ≤ 200 → R32 z := fun z q1 q2 => ⟨by omega, by omega⟩
  generalize hst : B 33 0 = st at *
  have pa : ∀ a, PO (u2 B 33 0 a) := fun a => hp.u2 (by decide) (by decide)
  have ea : ∀ a, sgB (u2 B 33 0 a) = sgB B := fun a => sgB_u2 (by decide) (by decide)
  have f103 : ∀ v a, isDg (sgB B st) = true → (sgB B st = 48 → v = 0 ∧ a = st + 1) → (¬ sgB B st = 48 → sNum (sgB B) 200 st 0 = (min v 21, a)) → 0 ≤ v → v ≤ 1000 → st < a → a ≤ 200 → r_number_103 m h0 (d + 1) st v (u2 B 33 0 a) Q := by
    intro v a hd hz hs v1 v2 a1 a2
    unfold r_number_103
    refine ⟨⟨by omega, by omega⟩, fun q => ?_, fun q => ?_⟩
    · refine kO v a ?_ v1 q a1 a2
      unfold sNm
      rw [if_pos hd]
      by_cases e : sgB B st = 48
      · rw [if_pos e, (hz e).1, (hz e).2]
      · rw [if_neg e, hs e, if_neg (by simp only []; omega)]
        congr 1
        rw [show min v 21 = v by omega]
    · refine R_wrong hm (by rw [u2_bank (by decide)]; exact hf) ⟨_, rfl, ?_⟩
      unfold r_number_114
      refine kE 0 a (by omega) (by omega) ?_
      unfold sNm
      rw [if_pos hd]
      by_cases e : sgB B st = 48
      · have := (hz e).1; omega
      · rw [if_neg e, hs e, if_pos (by simp only []; omega)]
  have it : ∀ a v, st ≤ a → a ≤ 200 → 0 ≤ v → v ≤ 1000 → isDg (sgB B a) = true → (sgB B st = 48 → r_number_103 m h0 (d + 1) st (min (10 * v + (sgB B a - 48)) 1000) (u2 B 33 0 (a + 1)) Q) → (¬ sgB B st = 48 → qZ m h0 (d + 2) k_number 34 [some (.ref m), some (iv st), some (iv (min (10 * v + (sgB B a - 48)) 1000))] [] (u2 B 33 0 (a + 1)) Q) → qZ m h0 (d + 2) k_number 34 [some (.ref m), some (iv st), some (iv v)] [] (u2 B 33 0 a) Q := by
    intro a v a1 a2 v1 v2 hd g1 g2
    have hd2 := hd
    unfold isDg at hd2
    simp at hd2
    refine r_number_34_ok hm ?_
    unfold r_number_34
    rw [u2_same]
    refine R_signAt hm (pa a) (by omega) (by omega) (fun v0 s0 r0 => ⟨_, rfl, ?_⟩)
    rw [ea] at s0
    unfold r_number_42
    refine R_in hm r0 (c _ (by decide) (by decide)) (c _ (by decide) (by decide)) ⟨_, rfl, ?_⟩
    rw [dg_iff s0, hd]
    unfold r_number_49
    refine ⟨bi_R _, fun q => absurd q (by decide), fun _ => ?_⟩
    rw [u2_same]
    refine R_signAt hm (pa a) (by omega) (by omega) (fun v3 s3 r3 => ⟨_, rfl, ?_⟩)
    rw [ea] at s3
    have e3 : v3 = sgB B a := by unfold SgV at s3; omega
    subst e3
    have n80 : r_number_80 m h0 (d + 1) st (min (10 * v + (sgB B a - 48)) 1000) (u2 B 33 0 a) Q := by
      unfold r_number_80
      rw [u2_same, u2_u2]
      refine R_signAt hm (pa _) (by omega) (by omega) (fun v4 s4 r4 => ⟨_, rfl, ?_⟩)
      rw [ea] at s4
      unfold r_number_95
      refine ⟨r4, fun q => g2 ?_, fun q => g1 ?_⟩
      · unfold SgV at s4; omega
      · unfold SgV at s4; omega
    unfold r_number_64
    refine ⟨⟨by omega, by omega⟩, fun q => ?_, fun q => ?_⟩
    · rw [show 10 * v + sgB B a - 48 = min (10 * v + (sgB B a - 48)) 1000 by omega]
      exact n80
    · rw [show (1000 : Int) = min (10 * v + (sgB B a - 48)) 1000 by omega]
      exact n80
  have L : ∀ (n : Nat) (a v : Int), (n : Int) + a ≥ 201 → st < a → a ≤ 200 → 0 ≤ v → v ≤ 1000 → isDg (sgB B st) = true → ¬ sgB B st = 48 → sNum (sgB B) 200 st 0 = sNum (sgB B) n a (min v 21) → qZ m h0 (d + 2) k_number 34 [some (.ref m), some (iv st), some (iv v)] [] (u2 B 33 0 a) Q := by
    intro n
    induction n with
    | zero => intro a v q1 q2 q3; omega
    | succ n ih =>
      intro a v q1 q2 q3 v1 v2 hd hz hs
      cases hdg : isDg (sgB B a) with
      | true =>
        have hd2 := hdg
        unfold isDg at hd2
        simp at hd2
        have := sg_end hp (i := a) (by omega) (by omega)
        refine it a v (by omega) q3 v1 v2 hdg (fun q => absurd q hz) (fun _ => ih (a + 1) _ (by omega) (by omega) (by omega) (by omega) (by omega) hd hz ?_)
        rw [hs]
        show (if isDg (sgB B a) = true then _ else _) = _
        rw [if_pos hdg]
        congr 1
        omega
      | false =>
        refine r_number_34_ok hm ?_
        unfold r_number_34
        rw [u2_same]
        refine R_signAt hm (pa a) (by omega) (by omega) (fun v0 s0 r0 => ⟨_, rfl, ?_⟩)
        rw [ea] at s0
        unfold r_number_42
        refine R_in hm r0 (c _ (by decide) (by decide)) (c _ (by decide) (by decide)) ⟨_, rfl, ?_⟩
        rw [dg_iff s0, hdg]
        unfold r_number_49
        refine ⟨bi_R _, fun _ => f103 v a hd (fun q => absurd q hz) (fun _ => ?_) v1 v2 q2 q3, fun q => absurd rfl q⟩
        rw [hs]
        show (if isDg (sgB B a) = true then _ else _) = _
        rw [if_neg (by rw [hdg]; decide)]
  refine r_number_0_ok hm ?_
  unfold r_number_0
  rw [hst]
  refine R_signAt hm hp (by omega) (by omega) (fun v0 s0 r0 => ⟨_, rfl, ?_⟩)
  unfold r_number_13
  refine R_in hm r0 (c _ (by decide) (by decide)) (c _ (by decide) (by decide)) ⟨_, rfl, ?_⟩
  rw [dg_iff s0]
  unfold r_number_20
  refine ⟨bi_R _, fun q => ?_, fun q => ?_⟩
  · have hd := bi_n q
    have hd2 := hd
    unfold isDg at hd2
    simp at hd2
    have hlt := sg_end hp (i := st) (by omega) (by omega)
    have := it st 0 (by omega) (by omega) (by omega) (by omega) hd (fun e => f103 _ _ hd (fun _ => ⟨by omega, rfl⟩) (fun q => absurd e q) (by omega) (by omega) (by omega) (by omega)) (fun e => L 199 (st + 1) _ (by omega) (by omega) (by omega) (by omega) (by omega) hd e (by
      show (if isDg (sgB B st) = true then _ else _) = _
      rw [if_pos hd]
      congr 1
      omega))
    rw [← hst, u2_self] at this
    rw [← hst]
    exact this
  · have hd := bi_0 q
    rw [hst]
    refine R_wrong hm hf ⟨_, rfl, ?_⟩
    unfold r_number_31
    have := kE 0 st (by omega) (by omega) (by unfold sNm; rw [if_neg (by rw [hd]; decide)])
    rw [← hst, u2_self, hst] at this
    exact this
theorem kl_lt {s : Int} (h : isKl s = true) : 32 ≤ s ∧ s ≤ 126 := by
  unfold isKl at h
  simp at h
  omega
theorem R_escape (hm : m + 100 < 1000000000) {s : Int} {P : Nat → Bool} (hp : PO B) (hf : B 35 0 = -1) (h1 : 0 ≤ B 33 0) (h2 : B 33 0 ≤ 201) (hs1 : 0 ≤ s) (hs2 : s < 256) (hS : SE B s P)
    (kE : ∀ B', sEsc (sgB B) (B 33 0) = .error (B 33 0) → B' = u2 B 35 0 (B 33 0) → Q (.inl none) B')
    (kO : ∀ K B', sEsc (sgB B) (B 33 0) = .ok (K, B 33 0 + 1) → B 33 0 < 200 → LSt B s B' (B 33 0 + 1) (fun c => P c || K c) → Q (.inl none) B') : qZ m h0 (d + 4) k_escape 0 [some (.ref m), some (iv s), none, none] [] B Q := by
  have c : ∀ z : Int, 0 ≤ z → z ≤ 200 → R32 z := fun z q1 q2 => ⟨by omega, by omega⟩
  have e35 : sEsc (sgB B) (B 33 0) = .error (B 33 0) → Q (.inl none) (u2 B 35 0 (B 33 0)) := fun q => kE _ q rfl
  have L : ∀ (n : Nat) (x e : Int) (B1 : qB), x + n = 256 → 0 ≤ x → isKl (sgB B (B 33 0)) = true → e = sgB B (B 33 0) → FrS (SS s) B B1 → B1 33 0 = B 33 0 → SE B1 s (fun c => P c || (decide ((c : Int) < x) && kindP e c)) → qZ m h0 (d + 4) k_escape 40 [some (.ref m), some (iv s), some (iv e), some (iv x)] [] B1 Q := by
    intro n
    induction n with
    | zero =>
      intro x e B1 hx hx0 hk he hfr ha hse
      refine r_escape_40_ok hm ?_
      unfold r_escape_40
      refine ⟨⟨by omega, by omega⟩, fun _ => ?_, fun q => by omega⟩
      unfold r_escape_119
      rw [ha]
      have hkl := kl_lt hk
      refine kO (kindP (sgB B (B 33 0))) _ ?_ (sg_end hp h1 (by omega)) ⟨FrS.u2 hfr (by unfold SS; omega), u2_same, SE_ext (SE_u2 hse (by decide)) (fun c hc => ?_)⟩
      · unfold sEsc
        rw [if_neg (by omega), if_pos hk]
      · simp only [show ((c : Int) < x) by omega, decide_true, Bool.true_and, he]
    | succ n ih =>
      intro x e B1 hx hx0 hk he hfr ha hse
      have hkl := kl_lt hk
      refine r_escape_40_ok hm ?_
      unfold r_escape_40
      refine ⟨⟨by omega, by omega⟩, fun q => by omega, fun q => ?_⟩
      refine R_isKind hm ⟨by omega, by omega⟩ ⟨by omega, by omega⟩ hx0 ⟨_, rfl, ?_⟩
      unfold r_escape_52
      refine ⟨bi_R _, fun q2 => ?_, fun q2 => ?_⟩
      · have hb := bi_0 q2
        unfold r_escape_61
        refine ih (x + 1) e B1 (by omega) (by omega) hk he hfr ha (SE_ext hse (fun c hc => ?_))
        by_cases ec : (c : Int) = x
        · have : c = x.toNat := by omega
          subst this
          simp [hb]
        · have : ((c : Int) < x + 1) = ((c : Int) < x) := by simp; omega
          simp only [this]
      · have hb := bi_n q2
        refine qZ.mono (d := d + 1) (R_include hm hs1 hs2 hx0 (by omega) ⟨rfl, ?_⟩) (by omega) (fun _ _ q => q)
        unfold r_escape_61
        refine ih (x + 1) e _ (by omega) (by omega) hk he (SS_inc hfr hx0 (by omega)) ?_ (SE_ext (SE_inc hx0 (by omega) hse) (fun c hc => ?_))
        · unfold incB; rw [u2_bank (by decide)]; exact ha
        · by_cases ec : (c : Int) = x
          · have : c = x.toNat := by omega
            subst this
            simp [hb, ec, show x < x + 1 by omega]
          · have : ((c : Int) < x + 1) = ((c : Int) < x) := by simp; omega
            simp only [this, ec, decide_false, Bool.or_false]
  have n21 : sgB B (B 33 0) < 0 → r_escape_21 m h0 (d + 3) B Q := by
    intro q
    unfold r_escape_21
    refine qZ.mono (d := d + 1) (R_wrong hm hf ⟨_, rfl, ?_⟩) (by omega) (fun _ _ q => q)
    unfold r_escape_29
    exact e35 (by unfold sEsc; rw [if_pos q])
  have n103 : ¬ sgB B (B 33 0) < 0 → isKl (sgB B (B 33 0)) = false → (isLt (sgB B (B 33 0)) = true ∨ isDg (sgB B (B 33 0)) = true) → r_escape_103 m h0 (d + 3) B Q := by
    intro q q2 q3
    unfold r_escape_103
    refine qZ.mono (d := d + 1) (R_wrong hm hf ⟨_, rfl, ?_⟩) (by omega) (fun _ _ q => q)
    unfold r_escape_111
    exact e35 (by unfold sEsc; rw [if_neg q, if_neg (by rw [q2]; decide), if_pos q3])
  refine r_escape_0_ok hm ?_
  unfold r_escape_0
  refine qZ.mono (d := d + 1) (R_signAt hm hp h1 (by omega) (fun v s0 r0 => ⟨_, rfl, ?_⟩)) (by omega) (fun _ _ q => q)
  unfold r_escape_8
  refine ⟨r0, fun q => n21 (by unfold SgV at s0; omega), fun q => ⟨fun q2 => ?_, fun q2 => n21 (by unfold SgV at s0; omega)⟩⟩
  have ev : v = sgB B (B 33 0) := by unfold SgV at s0; omega
  have hlt : B 33 0 < 200 := sg_end hp h1 (by omega)
  refine qZ.mono (d := d + 1) (R_isKl hm r0 ⟨_, rfl, ?_⟩) (by omega) (fun _ _ q => q)
  unfold r_escape_35
  refine ⟨bi_R _, fun q3 => ?_, fun q3 => ?_⟩
  · have hk := bi_0 q3
    rw [ev] at hk
    refine qZ.mono (d := d + 1) (R_in hm r0 (c _ (by decide) (by decide)) (c _ (by decide) (by decide)) ⟨_, rfl, ?_⟩) (by omega) (fun _ _ q => q)
    unfold r_escape_78
    refine ⟨bi_R _, fun q4 => ?_, fun q4 => ?_⟩
    · refine n103 (by omega) hk (Or.inl ?_)
      have := bi_n q4
      rw [ev] at this
      unfold isLt; rw [this]; rfl
    · have n1 := bi_0 q4
      refine qZ.mono (d := d + 1) (R_in hm r0 (c _ (by decide) (by decide)) (c _ (by decide) (by decide)) ⟨_, rfl, ?_⟩) (by omega) (fun _ _ q => q)
      unfold r_escape_89
      refine ⟨bi_R _, fun q5 => ?_, fun q5 => ?_⟩
      · refine n103 (by omega) hk (Or.inl ?_)
        have := bi_n q5
        rw [ev] at this
        unfold isLt; rw [this]; simp
      · have n2 := bi_0 q5
        refine qZ.mono (d := d + 1) (R_in hm r0 (c _ (by decide) (by decide)) (c _ (by decide) (by decide)) ⟨_, rfl, ?_⟩) (by omega) (fun _ _ q => q)
        unfold r_escape_100
        refine ⟨bi_R _, fun q6 => ?_, fun q6 => ?_⟩
        · have n3 := bi_0 q6
          refine qZ.mono (d := d + 1) (R_include hm hs1 hs2 (by omega) (by omega) ⟨rfl, ?_⟩) (by omega) (fun _ _ q => q)
          unfold r_escape_119
          have e33 : incB B s v 33 0 = B 33 0 := by unfold incB; rw [u2_bank (by decide)]
          rw [e33]
          refine kO (fun x => decide ((x : Int) = sgB B (B 33 0))) _ ?_ hlt ⟨FrS.u2 (SS_inc FrS.refl (by omega) (by omega)) (by unfold SS; omega), u2_same, SE_u2 ?_ (by decide)⟩
          · rw [ev] at n1 n2 n3
            unfold sEsc
            rw [if_neg (by omega), if_neg (by rw [hk]; decide), if_neg]
            unfold isLt isDg
            rw [n1, n2, n3]
            decide
          · rw [← ev]
            exact SE_inc (by omega) (by omega) hS
        · refine n103 (by omega) hk (Or.inr ?_)
          have := bi_n q6
          rw [ev] at this
          exact this
  · have hk := bi_n q3
    refine L 256 0 v B (by omega) (by omega) (by rw [← ev]; exact hk) ev FrS.refl rfl (SE_ext hS (fun c hc => ?_))
    simp
    omega
end RSET
