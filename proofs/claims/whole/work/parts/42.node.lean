/-! THE REFERENCE'S NODES: what they stand for, what keeps them -/
def FrS (S : Nat → Int → Prop) (B B' : qB) : Prop := ∀ b y, S b y → B' b y = B b y
theorem FrS.refl {S : Nat → Int → Prop} {B : qB} : FrS S B B := fun _ _ _ => rfl
theorem FrS.u2 {S : Nat → Int → Prop} {B B' : qB} {j : Nat} {x z : Int} (h : FrS S B B') (hn : ¬ S j x) : FrS S B (u2 B' j x z) := by
  intro b y hs
  by_cases e : b = j ∧ y = x
  · exact absurd (e.1 ▸ e.2 ▸ hs) hn
  · exact (if_neg e).trans (h b y hs)
theorem FrS.trans {S S' : Nat → Int → Prop} {B B1 B2 : qB} (h : FrS S B B1) (h2 : FrS S' B1 B2) (hs : ∀ b y, S b y → S' b y) : FrS S B B2 := fun b y q => (h2 b y (hs b y q)).trans (h b y q)
/-- what reading a piece of a pattern leaves as it is: all but new nodes, new sets, where it reads, the fault -/
def StN (N M : Int) (b : Nat) (y : Int) : Prop := b ≤ 16 ∨ (17 ≤ b ∧ b ≤ 25 ∧ y < N) ∨ b = 26 ∨ (b = 27 ∧ y < 4 * M) ∨ b = 30 ∨ b = 31 ∨ b = 32 ∨ b = 34 ∨ 36 ≤ b
theorem StN.mono {N M N' M' : Int} (h1 : N ≤ N') (h2 : M ≤ M') : ∀ b y, StN N M b y → StN N' M' b y := by
  intro b y h
  unfold StN at h ⊢
  omega
def bi (b : Bool) : Int := if b = true then 1 else 0
theorem bi_or (a b : Bool) : bi (a || b) = if ¬ bi a = 0 ∨ ¬ bi b = 0 then 1 else 0 := by
  cases a <;> cases b <;> rfl
theorem bi_R (a : Bool) : R32 (bi a) := by cases a <;> exact ⟨by decide, by decide⟩
theorem bi_01 (a : Bool) : bi a = 0 ∨ bi a = 1 := by cases a <;> first | exact Or.inl rfl | exact Or.inr rfl
/-- node x stands for the tree -/
def nd (B : qB) (N M : Int) : qT → Int → Prop
  | .num k, x => 0 ≤ x ∧ x < N ∧ B 17 x = (if k = 0 then 11 else 6 + k) ∧ B 24 x = wR (.num k) ∧ B 25 x = 0
  | .var s, x => 0 ≤ x ∧ x < N ∧ B 17 x = 0 ∧ 0 ≤ B 23 x ∧ B 23 x < M ∧ (∀ c, 0 ≤ c → c < 256 → hasB B (B 23 x) c = s.testBit c.toNat) ∧ B 24 x = 1 ∧ B 25 x = 0
  | .add a b, x => 0 ≤ x ∧ x < N ∧ B 17 x = 1 ∧ nd B N M a (B 18 x) ∧ nd B N M b (B 19 x) ∧ B 24 x = wR (.add a b) ∧ B 25 x = bi (aT (.add a b))
  | .sub a b, x => 0 ≤ x ∧ x < N ∧ B 17 x = 2 ∧ nd B N M a (B 18 x) ∧ nd B N M b (B 19 x) ∧ B 24 x = wR (.sub a b) ∧ B 25 x = bi (aT (.sub a b))
  | .neg a, x => 0 ≤ x ∧ x < N ∧ B 17 x = 1 ∧ nd B N M a (B 18 x) ∧ 0 ≤ B 19 x ∧ B 19 x < N ∧ B 17 (B 19 x) = 11 ∧ B 24 x = wR (.neg a) ∧ B 25 x = bi (aT (.neg a))
  | .mulL k a, x => 0 ≤ x ∧ x < N ∧ B 17 x = (if 1 ≤ k then 4 else if k = 0 then 5 else 6) ∧ nd B N M a (B 18 x) ∧ B 19 x = (if 1 ≤ k then k else 0) ∧ B 24 x = wR (.mulL k a) ∧ B 25 x = bi (aT (.mulL k a))
  | .mulR a k, x => 0 ≤ x ∧ x < N ∧ B 17 x = 3 ∧ nd B N M a (B 18 x) ∧ B 20 x = rl k ∧ B 21 x = rh k ∧ B 22 x = rg k ∧ B 24 x = wR (.mulR a k) ∧ B 25 x = bi (aT (.mulR a k))
theorem nd_w {B : qB} {N M : Int} {e : qT} {x : Int} (h : nd B N M e x) : 0 ≤ x ∧ x < N ∧ B 24 x = wR e ∧ B 25 x = bi (aT e) := by
  cases e with
  | num k => exact ⟨h.1, h.2.1, h.2.2.2.1, h.2.2.2.2⟩
  | var s => exact ⟨h.1, h.2.1, h.2.2.2.2.2.2.1, h.2.2.2.2.2.2.2⟩
  | add a b => exact ⟨h.1, h.2.1, h.2.2.2.2.2.1, h.2.2.2.2.2.2⟩
  | sub a b => exact ⟨h.1, h.2.1, h.2.2.2.2.2.1, h.2.2.2.2.2.2⟩
  | neg a => exact ⟨h.1, h.2.1, h.2.2.2.2.2.2.2.1, h.2.2.2.2.2.2.2.2⟩
  | mulL k a => exact ⟨h.1, h.2.1, h.2.2.2.2.2.1, h.2.2.2.2.2.2⟩
  | mulR a k => exact ⟨h.1, h.2.1, h.2.2.2.2.2.2.2.1, h.2.2.2.2.2.2.2.2⟩
/-- what a node's meaning hangs on -/
def NdS (N M : Int) (b : Nat) (y : Int) : Prop := (17 ≤ b ∧ b ≤ 25 ∧ y < N) ∨ (b = 27 ∧ y < 4 * M)
theorem nd_fr0 {B B' : qB} {N M N' M' : Int} (hf : FrS (NdS N M) B B') (hN : N ≤ N') (hM : M ≤ M') : ∀ (e : qT) (x : Int), nd B N M e x → nd B' N' M' e x := by
  have s17 : ∀ b y, 17 ≤ b → b ≤ 25 → y < N → B' b y = B b y := fun b y h1 h2 h3 => hf b y (Or.inl ⟨h1, h2, h3⟩)
  intro e
  induction e with
  | num k =>
    intro x h
    obtain ⟨h1, h2, h3, h4, h5⟩ := h
    exact ⟨h1, by omega, by rw [s17 17 x (by omega) (by omega) h2]; exact h3, by rw [s17 24 x (by omega) (by omega) h2]; exact h4, by rw [s17 25 x (by omega) (by omega) h2]; exact h5⟩
  | var s =>
    intro x h
    obtain ⟨h1, h2, h3, h4, h5, h6, h7, h8⟩ := h
    have e23 := s17 23 x (by omega) (by omega) h2
    refine ⟨h1, by omega, by rw [s17 17 x (by omega) (by omega) h2]; exact h3, by rw [e23]; exact h4, by rw [e23]; omega, ?_, by rw [s17 24 x (by omega) (by omega) h2]; exact h7, by rw [s17 25 x (by omega) (by omega) h2]; exact h8⟩
    intro c hc1 hc2
    rw [e23, ← h6 c hc1 hc2]
    unfold hasB
    rw [hf 27 _ (by unfold NdS; omega)]
  | add a b ha hb =>
    intro x h
    obtain ⟨h1, h2, h3, h4, h5, h6, h7⟩ := h
    refine ⟨h1, by omega, by rw [s17 17 x (by omega) (by omega) h2]; exact h3, ?_, ?_, by rw [s17 24 x (by omega) (by omega) h2]; exact h6, by rw [s17 25 x (by omega) (by omega) h2]; exact h7⟩
    · rw [s17 18 x (by omega) (by omega) h2]; exact ha _ h4
    · rw [s17 19 x (by omega) (by omega) h2]; exact hb _ h5
  | sub a b ha hb =>
    intro x h
    obtain ⟨h1, h2, h3, h4, h5, h6, h7⟩ := h
    refine ⟨h1, by omega, by rw [s17 17 x (by omega) (by omega) h2]; exact h3, ?_, ?_, by rw [s17 24 x (by omega) (by omega) h2]; exact h6, by rw [s17 25 x (by omega) (by omega) h2]; exact h7⟩
    · rw [s17 18 x (by omega) (by omega) h2]; exact ha _ h4
    · rw [s17 19 x (by omega) (by omega) h2]; exact hb _ h5
  | neg a ha =>
    intro x h
    obtain ⟨h1, h2, h3, h4, h5, h6, h7, h8, h9⟩ := h
    have e19 := s17 19 x (by omega) (by omega) h2
    refine ⟨h1, by omega, by rw [s17 17 x (by omega) (by omega) h2]; exact h3, ?_, by rw [e19]; exact h5, by rw [e19]; omega, by rw [e19, s17 17 _ (by omega) (by omega) h6]; exact h7, by rw [s17 24 x (by omega) (by omega) h2]; exact h8, by rw [s17 25 x (by omega) (by omega) h2]; exact h9⟩
    rw [s17 18 x (by omega) (by omega) h2]; exact ha _ h4
  | mulL k a ha =>
    intro x h
    obtain ⟨h1, h2, h3, h4, h5, h6, h7⟩ := h
    refine ⟨h1, by omega, by rw [s17 17 x (by omega) (by omega) h2]; exact h3, ?_, by rw [s17 19 x (by omega) (by omega) h2]; exact h5, by rw [s17 24 x (by omega) (by omega) h2]; exact h6, by rw [s17 25 x (by omega) (by omega) h2]; exact h7⟩
    rw [s17 18 x (by omega) (by omega) h2]; exact ha _ h4
  | mulR a k ha =>
    intro x h
    obtain ⟨h1, h2, h3, h4, h5, h6, h7, h8, h9⟩ := h
    refine ⟨h1, by omega, by rw [s17 17 x (by omega) (by omega) h2]; exact h3, ?_, by rw [s17 20 x (by omega) (by omega) h2]; exact h5, by rw [s17 21 x (by omega) (by omega) h2]; exact h6, by rw [s17 22 x (by omega) (by omega) h2]; exact h7, by rw [s17 24 x (by omega) (by omega) h2]; exact h8, by rw [s17 25 x (by omega) (by omega) h2]; exact h9⟩
    rw [s17 18 x (by omega) (by omega) h2]; exact ha _ h4
theorem nd_fr {B B' : qB} {N M N' M' : Int} (hf : FrS (StN N M) B B') (hN : N ≤ N') (hM : M ≤ M') : ∀ (e : qT) (x : Int), nd B N M e x → nd B' N' M' e x := nd_fr0 (fun b y q => hf b y (by unfold NdS at q; unfold StN; omega)) hN hM
section RN
variable {m : Nat} {h0 : qH} {d : Nat} {B : qB} {Q : qO → qB → Prop}
def nnB (B : qB) (w l r : Int) : qB := u2 (u2 (u2 (u2 (u2 (u2 (u2 (u2 (u2 B 17 (B 28 0) w) 18 (B 28 0) l) 19 (B 28 0) r) 20 (B 28 0) 0) 21 (B 28 0) 0) 22 (B 28 0) 0) 24 (B 28 0) 0) 25 (B 28 0) 0) 28 0 (B 28 0 + 1)
theorem nnB_fr {N M w l r : Int} {B B' : qB} (h : FrS (StN N M) B B') (hN : N ≤ B' 28 0) : FrS (StN N M) B (nnB B' w l r) := by
  unfold nnB
  refine FrS.u2 (FrS.u2 (FrS.u2 (FrS.u2 (FrS.u2 (FrS.u2 (FrS.u2 (FrS.u2 (FrS.u2 h ?_) ?_) ?_) ?_) ?_) ?_) ?_) ?_) ?_ <;> unfold StN <;> omega
theorem R_newNode (hm : m + 100 < 1000000000) {w l r : Int} (h1 : 0 ≤ B 28 0) (h2 : B 28 0 < 3000) (k : Q (.inl (some (iv (B 28 0)))) (nnB B w l r)) : qZ m h0 (d + 1) k_newNode 0 [some (.ref m), some (iv w), some (iv l), some (iv r)] [] B Q := by
  refine r_newNode_0_ok hm ?_
  unfold r_newNode_0
  refine ⟨h1, h2, ?_⟩
  rw [show B 28 0 + 1 - 1 = B 28 0 by omega]
  exact k
theorem R_single (hm : m + 100 < 1000000000) {w : Int} (h1 : 0 ≤ B 28 0) (h2 : B 28 0 < 3000) (k : Q (.inl (some (iv (B 28 0)))) (u2 (nnB B w 0 0) 24 (B 28 0) 1)) : qZ m h0 (d + 2) k_single 0 [some (.ref m), some (iv w), none] [] B Q := by
  refine r_single_0_ok hm ?_
  unfold r_single_0
  refine R_newNode hm h1 h2 ⟨_, rfl, ?_⟩
  unfold r_single_7
  exact ⟨h1, h2, k⟩
def bothB (B : qB) (w l r more : Int) : qB := u2 (u2 (nnB B w l r) 24 (B 28 0) (B 24 l + B 24 r + more)) 25 (B 28 0) (if ¬ B 25 l = 0 ∨ ¬ B 25 r = 0 then 1 else 0)
theorem bothB_fr {N M w l r more : Int} {B B' : qB} (h : FrS (StN N M) B B') (hN : N ≤ B' 28 0) : FrS (StN N M) B (bothB B' w l r more) := by
  unfold bothB
  refine FrS.u2 (FrS.u2 (nnB_fr h hN) ?_) ?_ <;> unfold StN <;> omega
theorem R_both (hm : m + 100 < 1000000000) {w l r more : Int} (h1 : 0 ≤ B 28 0) (h2 : B 28 0 < 3000) (hl1 : 0 ≤ l) (hl2 : l < 3000) (hr1 : 0 ≤ r) (hr2 : r < 3000) (a1 : R32 (B 25 l)) (a2 : R32 (B 25 r)) (k : Q (.inl (some (iv (B 28 0)))) (bothB B w l r more)) : qZ m h0 (d + 2) k_both 0 [some (.ref m), some (iv w), some (iv l), some (iv r), some (iv more), none, none, none] [] B Q := by
  have fin : ∀ z, (z = 0 ∨ z = 1) → (if ¬ B 25 l = 0 ∨ ¬ B 25 r = 0 then (1 : Int) else 0) = z → r_both_41 m h0 (d + 1) w l r (B 24 l + B 24 r + more) z B Q := by
    intro z hz hz2
    unfold r_both_41
    refine R_newNode hm h1 h2 ⟨_, rfl, ?_⟩
    unfold r_both_50
    refine ⟨h1, h2, hz, ?_⟩
    unfold bothB at k
    rw [hz2] at k
    exact k
  refine r_both_0_ok hm ?_
  unfold r_both_0
  refine ⟨hl1, hl2, hr1, hr2, a1, fun q => ?_, fun q => ⟨a2, fun q2 => ?_, fun q2 => ?_⟩⟩
  · unfold r_both_36
    exact fin 1 (Or.inr rfl) (if_pos (Or.inl q))
  · exact fin 0 (Or.inl rfl) (if_neg (by omega))
  · unfold r_both_36
    exact fin 1 (Or.inr rfl) (if_pos (Or.inr q2))
end RN
