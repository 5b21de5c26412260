/-! THE REFERENCE READS SIGNS, NUMBERS, WHAT STANDS BEHIND A \ -/
theorem u2_u2 {B : qB} {j : Nat} {x y z : Int} : u2 (u2 B j x y) j x z = u2 B j x z := by
  funext b w
  unfold u2
  by_cases e : b = j ∧ w = x
  · rw [if_pos e, if_pos e]
  · rw [if_neg e, if_neg e, if_neg e]
theorem u2_self {B : qB} {j : Nat} {x : Int} : u2 B j x (B j x) = B := by
  funext b w
  unfold u2
  by_cases e : b = j ∧ w = x
  · rw [if_pos e, e.1, e.2]
  · rw [if_neg e]
theorem u2_id {B : qB} {j : Nat} {x z : Int} (h : B j x = z) : u2 B j x z = B := h ▸ u2_self
/-- the sign at a place of the pattern -/
def sgB (B : qB) (i : Int) : Int := if i < B 32 0 then (if 32 ≤ B 31 i ∧ B 31 i ≤ 126 then B 31 i else -2) else -1
theorem sgB_eq {B B' : qB} (h1 : B' 32 0 = B 32 0) (h2 : ∀ i, B' 31 i = B 31 i) : sgB B' = sgB B := by
  funext i
  unfold sgB
  rw [h1, h2]
theorem sgB_u2 {B : qB} {j : Nat} {x z : Int} (h1 : j ≠ 32) (h2 : j ≠ 31) : sgB (u2 B j x z) = sgB B := sgB_eq (u2_bank (Ne.symm h1)) (fun _ => u2_bank (Ne.symm h2))
/-- v is what the reference sees where the sign is s -/
def SgV (v s : Int) : Prop := (32 ≤ s ∧ s ≤ 126 ∧ v = s) ∨ (s < 0 ∧ (v < 32 ∨ 126 < v))
/-- the pattern is in its place -/
def PO (B : qB) : Prop := 0 ≤ B 32 0 ∧ B 32 0 ≤ 200 ∧ ∀ i, 0 ≤ i → i < B 32 0 → 0 ≤ B 31 i ∧ B 31 i ≤ 255
theorem PO.u2 {B : qB} {j : Nat} {x z : Int} (h : PO B) (h1 : j ≠ 32) (h2 : j ≠ 31) : PO (u2 B j x z) := by
  obtain ⟨a, b, c⟩ := h
  refine ⟨?_, ?_, fun i q1 q2 => ?_⟩
  · rw [u2_bank (Ne.symm h1)]; exact a
  · rw [u2_bank (Ne.symm h1)]; exact b
  · rw [u2_bank (Ne.symm h1)] at q2
    rw [u2_bank (Ne.symm h2)]
    exact c i q1 q2
theorem PO.eq {B B' : qB} (h : PO B) (h1 : B' 32 0 = B 32 0) (h2 : ∀ i, B' 31 i = B 31 i) : PO B' := by
  obtain ⟨a, b, c⟩ := h
  refine ⟨by rw [h1]; exact a, by rw [h1]; exact b, fun i q1 q2 => ?_⟩
  rw [h1] at q2
  rw [h2]
  exact c i q1 q2
theorem sg_end {B : qB} {i : Int} (hp : PO B) (h0 : 0 ≤ i) (h : 0 ≤ sgB B i) : i < 200 := by
  unfold sgB at h
  by_cases q : i < B 32 0
  · have := hp.2.1; omega
  · rw [if_neg q] at h; omega
section RS
variable {m : Nat} {h0 : qH} {d : Nat} {B : qB} {Q : qO → qB → Prop}
theorem R_signAt (hm : m + 100 < 1000000000) {x : Int} (hp : PO B) (hx : 0 ≤ x) (hx2 : x ≤ 1000) (k : ∀ v, SgV v (sgB B x) → R32 v → Q (.inl (some (iv v))) B) : qZ m h0 (d + 1) k_signAt 0 [some (.ref m), some (iv x)] [] B Q := by
  obtain ⟨p1, p2, p3⟩ := hp
  refine r_signAt_0_ok hm ?_
  unfold r_signAt_0
  refine ⟨⟨by omega, by omega⟩, ⟨by omega, by omega⟩, fun q => ?_, fun q => ⟨hx, by omega, ?_⟩⟩
  · refine k _ (Or.inr ⟨?_, ?_⟩) ⟨by omega, by omega⟩
    · unfold sgB; rw [if_neg (by omega)]; omega
    · omega
  · have := p3 x hx q
    refine k _ ?_ ⟨by omega, by omega⟩
    unfold SgV sgB
    rw [if_pos q]
    split <;> omega
theorem R_in (hm : m + 100 < 1000000000) {x a b : Int} (h1 : R32 x) (h2 : R32 a) (h3 : R32 b) (k : Q (.inl (some (iv (bi (decide (a ≤ x) && decide (x ≤ b)))))) B) : qZ m h0 (d + 1) k_in 0 [some (iv x), some (iv a), some (iv b)] [] B Q := by
  refine r_in_0_ok hm ?_
  unfold r_in_0
  refine ⟨h1, h2, fun q => ?_, fun q => ⟨h3, fun q2 => ?_, fun q2 => ?_⟩⟩
  · rw [decide_eq_false (by omega)] at k; exact k
  · rw [decide_eq_false (p := x ≤ b) (by omega), Bool.and_false] at k; exact k
  · rw [decide_eq_true (p := a ≤ x) (by omega), decide_eq_true (p := x ≤ b) (by omega)] at k; exact k
theorem R_wrong (hm : m + 100 < 1000000000) {x : Int} (h : B 35 0 = -1) (k : Q (.inl (some (iv 0))) (u2 B 35 0 x)) : qZ m h0 (d + 1) k_wrong 0 [some (.ref m), some (iv x)] [] B Q := by
  refine r_wrong_0_ok hm ?_
  unfold r_wrong_0
  rw [h]
  exact ⟨⟨by decide, by decide⟩, fun q => by omega, fun _ => k⟩
theorem R_isBlank (hm : m + 100 < 1000000000) {x : Int} (h1 : R32 x) (k : Q (.inl (some (iv (bi (isBk x))))) B) : qZ m h0 (d + 1) k_isBlank 0 [some (iv x)] [] B Q := by
  have k12 : ¬ (9 ≤ x ∧ x ≤ 13) → r_isBlank_12 m h0 d x B Q := by
    intro hn
    unfold r_isBlank_12
    refine ⟨h1, fun q => ?_, fun q => ?_⟩
    · have : isBk x = false := by unfold isBk; simp; omega
      rw [this] at k; exact k
    · have : isBk x = true := by unfold isBk; simp; omega
      rw [this] at k; exact k
  refine r_isBlank_0_ok hm ?_
  unfold r_isBlank_0
  refine ⟨h1, fun q => k12 (by omega), fun q => ⟨fun q2 => ?_, fun q2 => k12 (by omega)⟩⟩
  have : isBk x = true := by unfold isBk; simp; omega
  rw [this] at k; exact k
theorem R_isWord (hm : m + 100 < 1000000000) {x : Int} (h1 : R32 x) (k : Q (.inl (some (iv (bi (isWd x))))) B) : qZ m h0 (d + 2) k_isWord 0 [some (iv x)] [] B Q := by
  have c : ∀ z : Int, 0 ≤ z → z ≤ 200 → R32 z := fun z q1 q2 => ⟨by omega, by omega⟩
  refine r_isWord_0_ok hm ?_
  unfold r_isWord_0
  refine R_in hm h1 (c _ (by decide) (by decide)) (c _ (by decide) (by decide)) ⟨_, rfl, ?_⟩
  unfold r_isWord_8
  refine ⟨bi_R _, fun q => ?_, fun q => ?_⟩
  · have : isWd x = true := by
      have hq : (decide (97 ≤ x) && decide (x ≤ 122)) = true := by cases hh : (decide (97 ≤ x) && decide (x ≤ 122)) <;> simp_all [bi]
      unfold isWd isLt; rw [hq]; rfl
    rw [this] at k; exact k
  · have n1 : (decide (97 ≤ x) && decide (x ≤ 122)) = false := by cases hh : (decide (97 ≤ x) && decide (x ≤ 122)) <;> simp_all [bi]
    refine R_in hm h1 (c _ (by decide) (by decide)) (c _ (by decide) (by decide)) ⟨_, rfl, ?_⟩
    unfold r_isWord_19
    refine ⟨bi_R _, fun q => ?_, fun q => ?_⟩
    · have : isWd x = true := by
        have hq : (decide (65 ≤ x) && decide (x ≤ 90)) = true := by cases hh : (decide (65 ≤ x) && decide (x ≤ 90)) <;> simp_all [bi]
        unfold isWd isLt; rw [hq, n1]; rfl
      rw [this] at k; exact k
    · have n2 : (decide (65 ≤ x) && decide (x ≤ 90)) = false := by cases hh : (decide (65 ≤ x) && decide (x ≤ 90)) <;> simp_all [bi]
      refine R_in hm h1 (c _ (by decide) (by decide)) (c _ (by decide) (by decide)) ⟨_, rfl, ?_⟩
      unfold r_isWord_30
      refine ⟨bi_R _, fun q => ?_, fun q => ⟨h1, fun q2 => ?_, fun q2 => ?_⟩⟩
      · have : isWd x = true := by
          have hq : isDg x = true := by unfold isDg; cases hh : (decide (48 ≤ x) && decide (x ≤ 57)) <;> simp_all [bi]
          unfold isWd; rw [hq]; simp
        rw [this] at k; exact k
      · have : isWd x = false := by
          have hq : isDg x = false := by unfold isDg; cases hh : (decide (48 ≤ x) && decide (x ≤ 57)) <;> simp_all [bi]
          unfold isWd isLt; rw [hq, n1, n2]; simp [q2]
        rw [this] at k; exact k
      · have : isWd x = true := by unfold isWd; simp [q2]
        rw [this] at k; exact k
theorem R_isKl (hm : m + 100 < 1000000000) {x : Int} (h1 : R32 x) (k : Q (.inl (some (iv (bi (isKl x))))) B) : qZ m h0 (d + 1) k_isLetterOfKind 0 [some (iv x)] [] B Q := by
  have y : isKl x = true → Q (.inl (some (iv 1))) B := fun q => by rw [q] at k; exact k
  have n : isKl x = false → Q (.inl (some (iv 0))) B := fun q => by rw [q] at k; exact k
  refine r_isLetterOfKind_0_ok hm ?_
  unfold r_isLetterOfKind_0
  refine ⟨h1, fun q => y (by unfold isKl; simp [q]), fun q1 => ⟨fun q => y (by unfold isKl; simp [q]), fun q2 => ⟨fun q => y (by unfold isKl; simp [q]), fun q3 => ⟨fun q => y (by unfold isKl; simp [q]), fun q4 => ⟨fun q => y (by unfold isKl; simp [q]), fun q5 => ⟨fun q => n (by unfold isKl; simp [q1, q2, q3, q4, q5, q]), fun q => y (by unfold isKl; simp [q])⟩⟩⟩⟩⟩⟩
theorem bi_0 {a : Bool} (h : bi a = 0) : a = false := by cases a <;> simp_all [bi]
theorem bi_n {a : Bool} (h : ¬ bi a = 0) : a = true := by cases a <;> simp_all [bi]
theorem R_isKind (hm : m + 100 < 1000000000) {e x : Int} (he : R32 e) (h1 : R32 x) (hx : 0 ≤ x) (k : Q (.inl (some (iv (bi (kindP e x.toNat))))) B) : qZ m h0 (d + 3) k_isKind 0 [some (iv e), some (iv x)] [] B Q := by
  have c : ∀ z : Int, 0 ≤ z → z ≤ 200 → R32 z := fun z q1 q2 => ⟨by omega, by omega⟩
  have hn : ((x.toNat : Nat) : Int) = x := by omega
  unfold kindP at k
  simp only [hn] at k
  refine r_isKind_0_ok hm ?_
  unfold r_isKind_0
  refine ⟨he, fun q1 => ⟨fun q2 => ⟨fun q3 => ⟨fun q4 => ⟨fun q5 => ?_, fun q5 => ?_⟩, fun q4 => ?_⟩, fun q3 => ?_⟩, fun q2 => ?_⟩, fun q1 => ?_⟩
  · rw [if_neg q1, if_neg q2, if_neg q3, if_neg q4, if_neg q5] at k
    refine qZ.mono (d := d + 1) (R_isBlank hm h1 ⟨_, rfl, ?_⟩) (by omega) (fun _ _ q => q)
    unfold r_isKind_85
    refine ⟨bi_R _, fun q => ?_, fun q => ?_⟩
    · rw [bi_n q] at k; exact k
    · rw [bi_0 q] at k; exact k
  · rw [if_neg q1, if_neg q2, if_neg q3, if_neg q4, if_pos q5] at k
    refine R_isWord hm h1 ⟨_, rfl, ?_⟩
    unfold r_isKind_70
    refine ⟨bi_R _, fun q => ?_, fun q => ?_⟩
    · rw [bi_n q] at k; exact k
    · rw [bi_0 q] at k; exact k
  · rw [if_neg q1, if_neg q2, if_neg q3, if_pos q4] at k
    refine qZ.mono (d := d + 1) (R_in hm h1 (c _ (by decide) (by decide)) (c _ (by decide) (by decide)) ⟨_, rfl, ?_⟩) (by omega) (fun _ _ q => q)
    unfold r_isKind_51
    unfold isDg at k
    refine ⟨bi_R _, fun q => ?_, fun q => ?_⟩
    · rw [bi_n q] at k; exact k
    · rw [bi_0 q] at k; exact k
  · rw [if_neg q1, if_neg q2, if_pos q3] at k
    refine qZ.mono (d := d + 1) (R_isBlank hm h1 ⟨_, rfl, ?_⟩) (by omega) (fun _ _ q => q)
    unfold r_isKind_36
    exact ⟨bi_01 _, k⟩
  · rw [if_neg q1, if_pos q2] at k
    refine R_isWord hm h1 ⟨_, rfl, ?_⟩
    unfold r_isKind_25
    exact ⟨bi_01 _, k⟩
  · rw [if_pos q1] at k
    refine qZ.mono (d := d + 1) (R_in hm h1 (c _ (by decide) (by decide)) (c _ (by decide) (by decide)) ⟨_, rfl, ?_⟩) (by omega) (fun _ _ q => q)
    unfold r_isKind_14
    unfold isDg at k
    exact ⟨bi_01 _, k⟩
end RS
