/-! THE CLASS'S READER: sets -/
/-- a member of a set -/
def mSt (sg : Int → Int) (a : Int) : Except Int ((Nat → Bool) × Int) := if sg a < 0 then .error a else if sg a = 92 then sEsc sg (a + 1) else if sg (a + 1) = 45 ∧ sg (a + 2) ≠ 92 ∧ sg (a + 2) ≠ 93 ∧ 0 ≤ sg (a + 2) then (if sg (a + 2) < sg a then .error a else .ok (fun c => decide (sg a ≤ (c : Int)) && decide ((c : Int) ≤ sg (a + 2)), a + 3)) else .ok (fun c => decide ((c : Int) = sg a), a + 1)
theorem sMem_s {sg : Int → Int} {st a : Int} {f : Nat} {P : Nat → Bool} (h : sg a ≠ 93) : sMem sg st (f + 1) a P = match mSt sg a with
    | .error w => .error w
    | .ok (K, b) => sMem sg st f b (fun c => P c || K c) := by
  show (if sg a < 0 ∨ (sg a = 93 ∧ a = st) then _ else _) = _
  unfold mSt
  by_cases h0 : sg a < 0
  · rw [if_pos (Or.inl h0), if_pos h0]
  · rw [if_neg (by omega), if_neg h0, if_neg h]
    by_cases h1 : sg a = 92
    · rw [if_pos h1, if_pos h1]
      cases sEsc sg (a + 1) <;> rfl
    · rw [if_neg h1, if_neg h1]
      by_cases h2 : sg (a + 1) = 45 ∧ sg (a + 2) ≠ 92 ∧ sg (a + 2) ≠ 93 ∧ 0 ≤ sg (a + 2)
      · rw [if_pos h2, if_pos h2]
        by_cases h3 : sg (a + 2) < sg a
        · rw [if_pos h3, if_pos h3]
        · rw [if_neg h3, if_neg h3]
      · rw [if_neg h2, if_neg h2]
theorem sMem_e {sg : Int → Int} {st a : Int} {f : Nat} {P : Nat → Bool} (h : sg a = 93) (h2 : a ≠ st) : sMem sg st (f + 1) a P = .ok (P, a + 1) := by
  show (if sg a < 0 ∨ (sg a = 93 ∧ a = st) then _ else if sg a = 93 then _ else _) = _
  rw [if_neg (by omega), if_pos h]
/-- the set that is being read: B1 behind its opening -/
def SSt (sg : Int → Int) (B0 B1 B : qB) : Prop := RS sg B0 B ∧ ∀ b x, ¬ (b = 99 ∧ 8 * (B1 98 1 - 1) ≤ x) → ¬ (b = 100 ∧ (x = 2 ∨ x = 3)) → B b x = B1 b x
def SHo (B1 B : qB) (P : Nat → Bool) : Prop := ∀ c : Nat, c < 256 → hoC B 98 (B1 98 1 - 1) c = P c
section CRD3
variable {h1 : qH} {d : Nat} {Q : qO → qB → Prop} {sg : Int → Int} {B0 B1 B : qB}
theorem SSt_set {B' : qB} (h : SSt sg B0 B1 B) (s0 : 1 ≤ B1 98 1) (f : sCh 98 (B1 98 1 - 1) B B') : SSt sg B0 B1 B' := by
  have m1 : B 98 1 = B1 98 1 := h.2 98 1 (by omega) (by omega)
  have m2 := h.1.2.2.2.2.2.2.1
  have e98 : B' 98 1 = B 98 1 := f 98 1 (by omega)
  exact ⟨RS_set h.1 (fun b x q1 q2 => f b x (by omega)) (by omega) (by omega), fun b x q1 q2 => (f b x (by omega)).trans (h.2 b x q1 q2)⟩
theorem SSt_at {z : Int} (h : SSt sg B0 B1 B) (h1 : B 100 2 ≤ z) (h2 : z ≤ 100000) : SSt sg B0 B1 (u2 B 100 2 z) := ⟨RS_at h.1 h1 h2, fun b x q1 q2 => by
  by_cases hb : b = 100
  · subst hb; rw [u2_idx (fun w => q2 ⟨rfl, Or.inl w⟩)]; exact h.2 100 x q1 q2
  · rw [u2_bank hb]; exact h.2 b x q1 q2⟩
theorem SSt_br {z : Int} (h : SSt sg B0 B1 B) (z0 : -1 ≤ z) (z1 : z ≤ 5000) : SSt sg B0 B1 (brC B z) := ⟨RS_br h.1 z0 z1, fun b x q1 q2 => by
  by_cases hb : b = 100
  · subst hb; rw [brC_at _ _ _ (fun w => q2 ⟨rfl, Or.inr w⟩)]; exact h.2 100 x q1 q2
  · rw [brC_b _ _ _ _ hb]; exact h.2 b x q1 q2⟩
theorem SHo_fr {B' : qB} {P : Nat → Bool} (h : SHo B1 B P) (s0 : 1 ≤ B1 98 1) (f : ∀ x, B' 99 x = B 99 x) : SHo B1 B' P := fun c hc => by
  rw [hoC_fr (B := B) (by omega) (by omega) (fun x _ _ => f x)]; exact h c hc
theorem R_readEscapedMember {P : Nat → Bool} (hd : 3 ≤ d) (hK : CKB B0) (h : SSt sg B0 B1 B) (hP : SHo B1 B P) (s0 : 1 ≤ B1 98 1) (s1 : B1 98 1 ≤ 200) (h3 : B 100 3 = -1) (a1 : B 100 2 < 200)
    (kG : ∀ K a, sEsc sg (B 100 2 + 1) = .ok (K, a) → ∀ B', SSt sg B0 B1 B' → SHo B1 B' (fun c => P c || K c) → B' 100 3 = -1 → B' 100 2 = a → Q (.inl none) B')
    (kB : ∀ w, sEsc sg (B 100 2 + 1) = .error w → ∀ B', SSt sg B0 B1 B' → B' 100 3 = w → w ≠ -1 → B' 100 2 ≤ 210 → Q (.inl none) B') : qY h1 d n_Re_readEscapedMember 0 [some (.ref 100), some (iv (B1 98 1 - 1)), some (iv (sg (B 100 2 + 1))), none] [] B Q := by
  obtain ⟨d, rfl, he⟩ := d_pos hd
  have o98 : ob 7 98 := ⟨by decide, by decide, by decide⟩
  have cb := clsO_bd (sg (B 100 2 + 1))
  have A0 := h.1.2.1.2.2.1
  refine c_Re_readEscapedMember_0_ok (by omega) h.1.1 ⟨h.1.R _, ⟨by omega, by omega⟩, fun q => ?_, fun q => ?_⟩
  · have hk : isKl (sg (B 100 2 + 1)) = false := by
      rw [← Bool.not_eq_true]
      exact fun w => clsO_i.mpr w q
    have kE : (sg (B 100 2 + 1) < 0 ∨ isLt (sg (B 100 2 + 1)) = true ∨ isDg (sg (B 100 2 + 1)) = true) → c_Re_readEscapedMember_54 h1 d B Q := fun hl => by
      have hE : sEsc sg (B 100 2 + 1) = .error (B 100 2 + 1) := by
        unfold sEsc
        by_cases h0 : sg (B 100 2 + 1) < 0
        · rw [if_pos h0]
        · rw [if_neg h0, if_neg (by rw [hk]; decide), if_pos (hl.resolve_left h0)]
      refine ⟨h.1.R3, ?_⟩
      have h2 := SSt_br (z := B 100 2 + 1) h (by omega) (by omega)
      have e2 : brC B (B 100 2 + 1) 100 2 = B 100 2 := brC_at _ _ _ (by decide)
      refine kB _ hE _ (SSt_at h2 (by rw [e2]; omega) (by rw [e2]; omega)) ?_ (by omega) ?_
      · rw [u2_idx (by decide), brC_3, if_pos h3]
      · rw [u2_same, e2]; omega
    refine ⟨fun q2 => kE (Or.inl q2), fun q2 => ⟨fun q3 => kE (Or.inr (Or.inl (bi_n0.mp q3))), fun q3 => ⟨fun q4 => ?_, fun q4 => kE (Or.inr (Or.inr (bi_n0.mp q4)))⟩⟩⟩
    have hE : sEsc sg (B 100 2 + 1) = .ok (fun c => decide ((c : Int) = sg (B 100 2 + 1)), B 100 2 + 1 + 1) := by
      unfold sEsc
      rw [if_neg (by omega), if_neg (by rw [hk]; decide), if_neg (by rw [bi_z.mp q3, bi_z.mp q4]; decide)]
    have b1 := h.1.lt q2
    refine Y_Se_addRange (by omega) h.1.1 o98 (by omega) (by omega) (by omega) (by omega) (by omega) (by omega) (fun B' f e => ⟨rfl, ?_⟩)
    have h2 := SSt_set h s0 f
    have eat : B' 100 2 = B 100 2 := f 100 2 (by omega)
    refine ⟨h2.1.1, ?_⟩
    refine kG _ _ hE _ (SSt_at h2 (by omega) (by omega)) (SHo_fr (B := B') (fun c hc => ?_) s0 (fun x => u2_bank (by decide))) ?_ ?_
    · rw [e c (by omega) (by omega), hP c hc]
      congr 2
      exact propext (by omega)
    · rw [u2_idx (by decide), f 100 3 (by omega)]; exact h3
    · rw [u2_same]; omega
  · have hk := clsO_i.mp q
    have hE : sEsc sg (B 100 2 + 1) = .ok (kindP (sg (B 100 2 + 1)), B 100 2 + 1 + 1) := by
      unfold sEsc
      rw [if_neg (by have := isKl_i.mp hk; omega), if_pos hk]
    have k30 : ∀ z, z = (if sg (B 100 2 + 1) < 97 then 1 else 0) → c_Re_readEscapedMember_30 h1 d (B1 98 1 - 1) (clsO (sg (B 100 2 + 1))) z B Q := fun z hz => by
      refine Y_Se_addClass (by omega) h.1.1 o98 (by omega) (by omega) (by omega) (by omega) (by rw [hz]; split <;> omega) (fun B' f e => ⟨rfl, ?_⟩)
      have h2 := SSt_set h s0 f
      have eat : B' 100 2 = B 100 2 := f 100 2 (by omega)
      refine ⟨h2.1.1, ?_⟩
      refine kG _ _ hE _ (SSt_at h2 (by omega) (by omega)) (SHo_fr (B := B') (fun c hc => ?_) s0 (fun x => u2_bank (by decide))) ?_ ?_
      · rw [e c (by omega) (by omega), hP c hc, ← kcl_k hk c hc, ← hz]
        unfold kcl
        have : B 1000000000 (clsO (sg (B 100 2 + 1)) + (c : Int) / 32) = (q_CLS (clsO (sg (B 100 2 + 1)) + (c : Int) / 32).toNat).toInt := by
          rw [h.1.2.2.2.1 1000000000 _ (by omega), ← hK (clsO (sg (B 100 2 + 1)) + (c : Int) / 32).toNat (by omega)]
          congr 1
          omega
        rw [this]
      · rw [u2_idx (by decide), f 100 3 (by omega)]; exact h3
      · rw [u2_same]; omega
    exact ⟨fun q4 => k30 0 (by rw [if_neg (by omega)]), fun q4 => k30 1 (by rw [if_pos q4])⟩
theorem R_readMember {P : Nat → Bool} (hd : 4 ≤ d) (hK : CKB B0) (h : SSt sg B0 B1 B) (hP : SHo B1 B P) (s0 : 1 ≤ B1 98 1) (s1 : B1 98 1 ≤ 200) (h3 : B 100 3 = -1) (a1 : B 100 2 ≤ 200)
    (kG : ∀ K a, mSt sg (B 100 2) = .ok (K, a) → ∀ B', SSt sg B0 B1 B' → SHo B1 B' (fun c => P c || K c) → B' 100 3 = -1 → B' 100 2 = a → Q (.inl none) B')
    (kB : ∀ w, mSt sg (B 100 2) = .error w → ∀ B', SSt sg B0 B1 B' → B' 100 3 = w → w ≠ -1 → B' 100 2 ≤ 210 → Q (.inl none) B') : qY h1 d n_Re_readMember 0 [some (.ref 100), some (iv (B1 98 1 - 1)), none] [] B Q := by
  obtain ⟨d, rfl, he⟩ := d_pos hd
  have o98 : ob 7 98 := ⟨by decide, by decide, by decide⟩
  have A0 := h.1.2.1.2.2.1
  refine y_wk (c_Re_readMember_0_ok (by omega) h.1.1 ?_) ⟨rfl, rfl, trivial⟩
  unfold c_Re_readMember_0
  simp only [h.1.2.2.1, Int.add_zero]
  unfold mSt at kG kB
  have k125 : ∀ (q0 : 0 ≤ sg (B 100 2)), sg (B 100 2) ≠ 92 → ¬ (sg (B 100 2 + 1) = 45 ∧ sg (B 100 2 + 2) ≠ 92 ∧ sg (B 100 2 + 2) ≠ 93 ∧ 0 ≤ sg (B 100 2 + 2)) → c_Re_readMember_125 h1 d (B1 98 1 - 1) (sg (B 100 2)) B Q := fun q0 q1 q2 => by
    have b1 := h.1.lt q0
    refine Y_Se_addRange (by omega) h.1.1 o98 (by omega) (by omega) (by omega) (by omega) (by omega) (by omega) (fun B' f e => ⟨rfl, ?_⟩)
    have h2 := SSt_set h s0 f
    have eat : B' 100 2 = B 100 2 := f 100 2 (by omega)
    refine ⟨h2.1.1, ?_⟩
    refine kG _ (B 100 2 + 1) (by rw [if_neg (by omega), if_neg q1, if_neg q2]) _ (SSt_at h2 (by omega) (by omega)) (SHo_fr (B := B') (fun c hc => ?_) s0 (fun x => u2_bank (by decide))) ?_ ?_
    · rw [e c (by omega) (by omega), hP c hc]
      congr 2
      exact propext (by omega)
    · rw [u2_idx (by decide), f 100 3 (by omega)]; exact h3
    · rw [u2_same]; omega
  refine ⟨h.1.2.1, h.1.R _, fun q => ⟨fun q2 => ⟨h.1.R _, fun q3 => k125 q q2 (fun w => q3 w.1), fun q3 => ⟨h.1.R _, fun q4 => k125 q q2 (fun w => by omega), fun q4 => ⟨fun q5 => k125 q q2 (fun w => w.2.1 q5), fun q5 => ⟨fun q6 => k125 q q2 (fun w => w.2.2.1 q6), fun q6 => ⟨fun q7 => ?_, fun q7 => ⟨h.1.R3, ?_⟩⟩⟩⟩⟩⟩, fun q2 => ?_⟩, fun q => ⟨h.1.R3, ?_⟩⟩
  · have b1 := h.1.lt q
    have b2 := h.1.lt q4
    refine ⟨h.1.2.1, ?_⟩
    rw [h.1.2.2.1]
    refine Y_Se_addRange (by omega) h.1.1 o98 (by omega) (by omega) (by omega) (by omega) (by omega) (by omega) (fun B' f e => ⟨rfl, ?_⟩)
    have h2 := SSt_set h s0 f
    have eat : B' 100 2 = B 100 2 := f 100 2 (by omega)
    refine ⟨h2.1.1, ?_⟩
    refine kG _ (B 100 2 + 3) (by rw [if_neg (by omega), if_neg q2, if_pos ⟨q3, q5, q6, q4⟩, if_neg (by omega)]) _ (SSt_at h2 (by omega) (by omega)) (SHo_fr (B := B') (fun c hc => ?_) s0 (fun x => u2_bank (by decide))) ?_ ?_
    · rw [e c (by omega) (by omega), hP c hc, Bool.decide_and]
    · rw [u2_idx (by decide), f 100 3 (by omega)]; exact h3
    · rw [u2_same]; omega
  · have b1 := h.1.lt q
    have b2 := h.1.lt q4
    have hb := SSt_br (z := B 100 2) h (by omega) (by omega)
    have e2 : brC B (B 100 2) 100 2 = B 100 2 := brC_at _ _ _ (by decide)
    refine ⟨hb.1.2.1, ?_⟩
    rw [hb.1.2.2.1, e2]
    refine Y_Se_addRange (by omega) hb.1.1 o98 (by omega) (by omega) (by omega) (by omega) (by omega) (by omega) (fun B' f e => ⟨rfl, ?_⟩)
    have h2 := SSt_set hb s0 f
    have eat : B' 100 2 = B 100 2 := by rw [f 100 2 (by omega)]; exact e2
    refine ⟨h2.1.1, ?_⟩
    refine kB (B 100 2) (by rw [if_neg (by omega), if_neg q2, if_pos ⟨q3, q5, q6, q4⟩, if_pos q7]) _ (SSt_at h2 (by omega) (by omega)) ?_ (by omega) ?_
    · rw [u2_idx (by decide), f 100 3 (by omega), brC_3, if_pos h3]
    · rw [u2_same]; omega
  · have b1 := h.1.lt q
    refine R_readEscapedMember (by omega) hK h hP s0 s1 h3 (by omega) (fun K a hE B' g1 g2 g3 g4 => ⟨rfl, g1.1.1, ?_⟩) (fun w hE B' g1 g2 g3 g4 => ⟨rfl, g1.1.1, ?_⟩)
    · exact kG K a (by rw [if_neg (by omega), if_pos q2]; exact hE) B' g1 g2 g3 g4
    · exact kB w (by rw [if_neg (by omega), if_pos q2]; exact hE) B' g1 g2 g3 g4
  · have hb := SSt_br (z := B 100 2) h (by omega) (by omega)
    exact kB (B 100 2) (by rw [if_pos q]) _ hb (by rw [brC_3, if_pos h3]) (by omega) (by rw [brC_at _ _ _ (by decide)]; omega)
theorem mSt_lt {a b : Int} {K : Nat → Bool} (h : mSt sg a = .ok (K, b)) : a < b := by
  unfold mSt at h
  split at h
  · cases h
  · split at h
    · unfold sEsc at h
      split at h
      · cases h
      · split at h
        · cases h; omega
        · split at h
          · cases h
          · cases h; omega
    · split at h
      · split at h
        · cases h
        · cases h; omega
      · cases h; omega
theorem mSt_le {a b : Int} {K : Nat → Bool} (hB : RS sg B0 B) (h : mSt sg a = .ok (K, b)) : b ≤ 200 := by
  unfold mSt at h
  split at h
  · cases h
  · rename_i h0
    have l0 := (hB.lt (i := a) (by omega)).1
    split at h
    · unfold sEsc at h
      split at h
      · cases h
      · rename_i h9
        have l1 := (hB.lt (i := a + 1) (by omega)).1
        split at h
        · cases h; omega
        · split at h
          · cases h
          · cases h; omega
    · split at h
      · rename_i h5
        have l1 := (hB.lt (i := a + 2) h5.2.2.2).1
        split at h
        · cases h
        · cases h; omega
      · cases h; omega
theorem L_readSet {x2 st : Int} (hd : 4 ≤ d) (hK : CKB B0) (s0 : 1 ≤ B1 98 1) (s1 : B1 98 1 ≤ 200) : ∀ (f : Nat) (k : Int) (P : Nat → Bool) (B : qB), k + f = 201 → 0 ≤ k → k ≤ B 100 2 → B 100 2 ≤ 200 → SSt sg B0 B1 B → SHo B1 B P → B 100 3 = -1 → (sg (B 100 2) = 93 → B 100 2 ≠ st) → st ≤ B 100 2 →
    (∀ P' a, sMem sg st f (B 100 2) P = .ok (P', a) → ∀ B', SSt sg B0 B1 B' → SHo B1 B' P' → B' 100 3 = -1 → B' 100 2 = a - 1 → a ≤ 200 → c_Re_readSet_106 h1 d (B1 98 1 - 1) x2 B' Q) →
    (∀ w, sMem sg st f (B 100 2) P = .error w → ∀ B', SSt sg B0 B1 B' → B' 100 3 = w → w ≠ -1 → B' 100 2 ≤ 210 → c_Re_readSet_106 h1 d (B1 98 1 - 1) x2 B' Q) → qY h1 (d + 1) n_Re_readSet 71 [some (.ref 100), some (iv (B1 98 1 - 1)), some (iv x2), some (iv k)] [] B Q := by
  intro f
  induction f with
  | zero => intro k P B hk k0 k1 a1; omega
  | succ f ih =>
    intro k P B hk k0 k1 a1 h hP h3 hst hst2 kG kB
    have hat := h.1.2.2.1 (B 100 2)
    refine c_Re_readSet_71_ok (by omega) h.1.1 ?_
    unfold c_Re_readSet_71
    simp only [h.1.2.2.1, Int.add_zero]
    refine ⟨⟨by omega, by omega⟩, fun q => absurd q (by omega), fun q => ⟨h.1.R3, fun q2 => ?_, fun q2 => ⟨h.1.2.1, h.1.R _, fun q3 => ?_, fun q3 => ?_⟩⟩⟩
    · exact absurd h3 (of_decide_eq_true (bi_n0.mp q2))
    · have l := (h.1.lt (i := B 100 2) (by omega)).1
      exact kG P (B 100 2 + 1) (sMem_e q3 (hst q3)) B h hP h3 (by omega) (by omega)
    · rw [sMem_s q3] at kG kB
      refine R_readMember (by omega) hK h hP s0 s1 h3 a1 (fun K a hE B' g1 g2 g3 g4 => ⟨rfl, g1.1.1, ?_⟩) (fun w hE B' g1 g2 g3 g4 => ⟨rfl, g1.1.1, ?_⟩)
      · rw [hE] at kG kB
        have lt := mSt_lt hE
        have le := mSt_le h.1 hE
        rw [← g4] at kG kB
        exact ih (k + 1) (fun c => P c || K c) B' (by omega) (by omega) (by omega) (by omega) g1 g2 g3 (fun _ => by omega) (by omega) kG kB
      · rw [hE] at kB
        refine c_Re_readSet_71_ok (by omega) g1.1.1 ?_
        refine ⟨⟨by omega, by omega⟩, fun _ => kB w rfl B' g1 g2 g3 g4, fun q => ⟨g1.1.R3, fun _ => kB w rfl B' g1 g2 g3 g4, fun q2 => ?_⟩⟩
        have := bi_z.mp q2
        rw [decide_eq_true (show ¬ B' 100 3 = -1 by omega)] at this
        cases this
theorem sAt_91 {a : Int} (h : sg a = 91) : sAt sg a = match sSet sg a with
    | .error w => .error w
    | .ok (K, b) => .ok (.var (mkset K), b) := by
  unfold sAt
  rw [if_neg (by rw [h]; decide), if_neg (by omega), if_neg (by omega), if_neg (by omega), if_neg (by omega), if_pos h]
  rfl
theorem R_readSet (hd : 5 ≤ d) (h : RS sg B0 B) (hK : CKB B0) (h3 : B 100 3 = -1) (hs : B 90 8 < 408) (hat : sg (B 100 2) = 91) (kG : ∀ e a, sAt sg (B 100 2) = .ok (e, a) → ∀ B' v, XO sg B0 B B' e v → B' 100 2 = a → B' 100 5 = B 100 5 → Q (.inl (some (iv v))) B') (kB : ∀ w, sAt sg (B 100 2) = .error w → ∀ B' v, BP sg B0 10 B B' w → 0 ≤ v → v < 408 → Q (.inl (some (iv v))) B') : qY h1 d n_Re_readSet 0 [some (.ref 100), none, none, none] [] B Q := by
  obtain ⟨d, rfl, he⟩ := d_pos hd
  have o98 : ob 7 98 := ⟨by decide, by decide, by decide⟩
  have a9 := (h.lt (i := B 100 2) (by omega)).1
  have A0 := h.2.1.2.2.1
  have m0 := h.2.2.2.2.2.2.1
  have s0 := h.2.2.2.2.2.1.1
  rw [sAt_91 hat] at kG kB
  unfold sSet at kG kB
  refine y_wk (c_Re_readSet_0_ok (by omega) h.1 ?_) ⟨rfl, trivial⟩
  refine Y_Se_open (by omega) h.1 o98 m0.1 (by omega) (fun B1 f1 e1 => ⟨_, rfl, ?_⟩)
  have R1 := RS_at (z := B 100 2 + 1) h (by omega) (by omega)
  have hSH : SH (u2 B1 98 1 (B 98 1 + 1)) := SH_u2 (f1.sh m0.1 h.1) (by decide)
  refine ⟨hSH, ?_⟩
  have e100 : (u2 B1 98 1 (B 98 1 + 1)) 100 2 = B 100 2 := by rw [u2_bank (by decide)]; exact f1 100 2 (by omega)
  unfold c_Re_readSet_10
  rw [e100]
  have g2 : ∀ b x, ¬ (b = 99 ∧ 8 * B 98 1 ≤ x) → ¬ (b = 98 ∧ x = 1) → (u2 (u2 B1 98 1 (B 98 1 + 1)) 100 2 (B 100 2 + 1)) b x = (u2 B 100 2 (B 100 2 + 1)) b x := fun b x q1 q2 => by
    by_cases hb : b = 100
    · subst hb
      by_cases hx : x = 2
      · subst hx; rw [u2_same, u2_same]
      · rw [u2_idx hx, u2_idx hx, u2_bank (by decide)]; exact f1 100 x (by omega)
    · rw [u2_bank hb, u2_bank hb]
      by_cases hb2 : b = 98
      · subst hb2; rw [u2_idx (fun e => q2 ⟨rfl, e⟩)]; exact f1 98 x (by omega)
      · rw [u2_bank hb2]; exact f1 b x (by omega)
  have m2 : (u2 (u2 B1 98 1 (B 98 1 + 1)) 100 2 (B 100 2 + 1)) 98 1 = B 98 1 + 1 := by rw [u2_bank (by decide), u2_same]
  have a2 : (u2 (u2 B1 98 1 (B 98 1 + 1)) 100 2 (B 100 2 + 1)) 100 2 = B 100 2 + 1 := u2_same
  have ho2 : ∀ c : Nat, c < 256 → hoC (u2 (u2 B1 98 1 (B 98 1 + 1)) 100 2 (B 100 2 + 1)) 98 (B 98 1) c = false := fun c hc => by
    rw [hoC_fr (B := B1) m0.1 (by omega) (fun x _ _ => by rw [u2_bank (by decide), u2_bank (by decide)])]; exact e1 c (by omega) (by omega)
  have R2 : RS sg B0 (u2 (u2 B1 98 1 (B 98 1 + 1)) 100 2 (B 100 2 + 1)) := RS_set R1 (fun b x q1 q2 => g2 b x (by omega) q2) (by omega) (by rw [u2_same]; omega)
  have bnd : (u2 B 100 2 (B 100 2 + 1)) 100 2 = B 100 2 + 1 := u2_same
  generalize u2 (u2 B1 98 1 (B 98 1 + 1)) 100 2 (B 100 2 + 1) = B2 at g2 m2 a2 ho2 R2
  have t3 : B2 100 3 = -1 := by rw [g2 100 3 (by omega) (by omega), u2_idx (by decide)]; exact h3
  have S2 : SSt sg B0 B2 B2 := ⟨R2, fun _ _ _ _ => rfl⟩
  have eS : B2 98 1 - 1 = B 98 1 := by omega
  have H2 : SHo B2 B2 (fun _ => false) := fun c hc => by rw [eS]; exact ho2 c hc
  have sf : ∀ b x, b ≠ 98 → b ≠ 99 → b ≠ 100 → B2 b x = B b x := fun b x q1 q2 q3 => by rw [g2 b x (by omega) (by omega), u2_bank q3]
  -- the end: a set is added
  have fin : ∀ (K : Nat → Bool) (a : Int) (B4 : qB), SSt sg B0 B2 B4 → SHo B2 B4 K → B4 100 3 = -1 → B4 100 2 = a → B 100 2 < a → a ≤ 200 → XO sg B0 B (adT B4 2 (B 98 1) 0 1) (.var (mkset K)) (B 90 8) ∧ (adT B4 2 (B 98 1) 0 1) 100 2 = a ∧ (adT B4 2 (B 98 1) 0 1) 100 5 = B 100 5 ∧ adV B4 = B 90 8 := by
    intro K a B4 S4 H4 t4 a4 la lb
    have f4 : ∀ b x, b ≠ 98 → b ≠ 99 → b ≠ 100 → B4 b x = B b x := fun b x q1 q2 q3 => by rw [S4.2 b x (by omega) (by omega)]; exact sf b x q1 q2 q3
    have f4c : ∀ x, x ≠ 2 → x ≠ 3 → B4 100 x = B 100 x := fun x q1 q2 => by rw [S4.2 100 x (by omega) (by omega), g2 100 x (by omega) (by omega), u2_idx q1]
    have s4 : B4 90 8 = B 90 8 := f4 90 8 (by decide) (by decide) (by decide)
    have m4 : B4 98 1 = B 98 1 + 1 := by rw [S4.2 98 1 (by omega) (by omega)]; exact m2
    have n := adT_n (B := B4) (k := 2) (v := B 98 1) (i := 0) (z := 1) (by omega)
    rw [s4] at n
    have o1 : ∀ x, adT B4 2 (B 98 1) 0 1 100 x = B4 100 x := fun x => adT_o 100 x (by omega) (by omega)
    have o98' : adT B4 2 (B 98 1) 0 1 98 1 = B 98 1 + 1 := by rw [adT_o 98 1 (by omega) (by omega)]; exact m4
    refine ⟨XO_1 h (RS_ad S4.1 (by decide) ⟨by decide, by decide⟩) (by rw [o1]; exact t4) (by rw [o1]; exact f4c 6 (by decide) (by decide)) (by rw [o1]; exact a4) la lb n.1 (fun b x b0 b1 x0 x1 => by rw [adT_o b x (by omega) (by omega)]; exact f4 b x (by omega) (by omega) (by omega)) (by omega) (fun x x0 x1 => ?_) (by rw [o1]; exact f4c 7 (by decide) (by decide)) n.2.2.2.2.2 rfl rfl ?_ (fun s _ => ⟨fun _ => Or.inl hat, fun _ => n.2.1⟩), by rw [o1]; exact a4, by rw [o1]; exact f4c 5 (by decide) (by decide), by unfold adV; rw [if_pos (by omega), s4]⟩
    · rw [adT_o 99 x (by omega) (by omega), S4.2 99 x (by omega) (by omega), g2 99 x (by omega) (by omega), u2_bank (by decide)]
    · rw [n.1]
      refine Nd_set s0 (by omega) n.2.1 (by rw [n.2.2.1]; exact m0.1) (by rw [n.2.2.1]; omega) (fun c hc => ?_)
      rw [n.2.2.1, hoC_fr (B := B4) m0.1 (by omega) (fun x _ _ => adT_o 99 x (by omega) (by omega)), ← eS]
      exact H4 c hc
  have finB : ∀ (B4 : qB) (w : Int), SSt sg B0 B2 B4 → B4 100 3 = w → w ≠ -1 → B4 100 2 ≤ 230 → BP sg B0 10 B (adT B4 2 (B 98 1) 0 1) w ∧ 0 ≤ adV B4 ∧ adV B4 < 408 := by
    intro B4 w S4 t4 w4 a4
    have r := S4.1.2.2.2.2.2.1
    have o1 : ∀ x, adT B4 2 (B 98 1) 0 1 100 x = B4 100 x := fun x => adT_o 100 x (by omega) (by omega)
    refine ⟨⟨RS_ad S4.1 (by decide) ⟨by decide, by decide⟩, by rw [o1]; exact t4, w4, ?_, by rw [o1]; omega⟩, by unfold adV; split <;> omega, by unfold adV; split <;> omega⟩
    rw [o1, S4.2 100 6 (by omega) (by omega), g2 100 6 (by omega) (by omega), u2_idx (by decide)]
  -- behind the members
  have k106 : ∀ (z : Int) (P : Nat → Bool) (a : Int) (B3 : qB), (z = 0 ∨ z = 1) → SSt sg B0 B2 B3 → SHo B2 B3 P → B3 100 3 = -1 → B3 100 2 = a - 1 → B 100 2 < a → a ≤ 200 → (∀ B' v, XO sg B0 B B' (.var (mkset (if z = 0 then P else fun c => !P c))) v → B' 100 2 = a → B' 100 5 = B 100 5 → Q (.inl (some (iv v))) B') → c_Re_readSet_106 h1 d (B2 98 1 - 1) z B3 Q := by
    intro z P a B3 hz S3 H3 t3 a3 la lb k
    rw [eS]
    have S4 := SSt_at (z := B3 100 2 + 1) S3 (by omega) (by omega)
    have H4 : SHo B2 (u2 B3 100 2 (B3 100 2 + 1)) P := SHo_fr H3 (by omega) (fun x => u2_bank (by decide))
    have t4 : (u2 B3 100 2 (B3 100 2 + 1)) 100 3 = -1 := by rw [u2_idx (by decide)]; exact t3
    have a4 : (u2 B3 100 2 (B3 100 2 + 1)) 100 2 = a := by rw [u2_same]; omega
    refine ⟨⟨by omega, by omega⟩, fun q => ?_, fun q => ?_⟩
    · have r := S4.1.2.2.2.2.2.1
      refine ⟨r.1, r.2, ?_⟩
      obtain ⟨x1, x2, x3, x4⟩ := fin P a _ S4 H4 t4 a4 la lb
      rw [x4]
      rw [if_pos q] at k
      exact k _ _ x1 x2 x3
    · refine Y_Se_turnRound (by omega) S4.1.1 o98 m0.1 (by omega) (fun B5 f5 e5 => ⟨rfl, ?_⟩)
      have S5 := SSt_set S4 (by omega) (by rw [eS]; exact f5)
      have H5 : SHo B2 B5 (fun c => !P c) := fun c hc => by
        rw [eS, e5 c (by omega) (by omega), ← eS, H4 c hc]
      refine ⟨S5.1.1, ?_⟩
      have r := S5.1.2.2.2.2.2.1
      refine ⟨r.1, r.2, ?_⟩
      obtain ⟨x1, x2, x3, x4⟩ := fin (fun c => !P c) a _ S5 H5 (by rw [f5 100 3 (by omega)]; exact t4) (by rw [f5 100 2 (by omega)]; exact a4) la lb
      rw [x4]
      rw [if_neg q] at k
      exact k _ _ x1 x2 x3
  have k106B : ∀ (z : Int) (w : Int) (B3 : qB), (z = 0 ∨ z = 1) → SSt sg B0 B2 B3 → B3 100 3 = w → w ≠ -1 → B3 100 2 ≤ 210 → (∀ B' v, BP sg B0 10 B B' w → 0 ≤ v → v < 408 → Q (.inl (some (iv v))) B') → c_Re_readSet_106 h1 d (B2 98 1 - 1) z B3 Q := by
    intro z w B3 hz S3 t3 w3 a3 k
    rw [eS]
    have b3 := S3.1.2.1.2.2.1
    have S4 := SSt_at (z := B3 100 2 + 1) S3 (by omega) (by omega)
    have t4 : (u2 B3 100 2 (B3 100 2 + 1)) 100 3 = w := by rw [u2_idx (by decide)]; exact t3
    have a4 : (u2 B3 100 2 (B3 100 2 + 1)) 100 2 ≤ 211 := by rw [u2_same]; omega
    refine ⟨⟨by omega, by omega⟩, fun q => ?_, fun q => ?_⟩
    · have r := S4.1.2.2.2.2.2.1
      obtain ⟨x1, x2, x3⟩ := finB _ w S4 t4 w3 (by omega)
      exact ⟨r.1, r.2, k _ _ x1 x2 x3⟩
    · refine Y_Se_turnRound (by omega) S4.1.1 o98 m0.1 (by omega) (fun B5 f5 e5 => ⟨rfl, ?_⟩)
      have S5 := SSt_set S4 (by omega) (by rw [eS]; exact f5)
      have r := S5.1.2.2.2.2.2.1
      obtain ⟨x1, x2, x3⟩ := finB _ w S5 (by rw [f5 100 3 (by omega)]; exact t4) w3 (by rw [f5 100 2 (by omega)]; omega)
      exact ⟨S5.1.1, r.1, r.2, k _ _ x1 x2 x3⟩
  -- from the first member on
  have k51 : ∀ (z st : Int) (B3 : qB), (z = 0 ∨ z = 1) → SSt sg B0 B2 B3 → SHo B2 B3 (fun _ => false) → B3 100 3 = -1 → B3 100 2 = st → B 100 2 < st → st ≤ 200 → (∀ P a, sMem sg st 201 st (fun _ => false) = .ok (P, a) → ∀ B' v, XO sg B0 B B' (.var (mkset (if z = 0 then P else fun c => !P c))) v → B' 100 2 = a → B' 100 5 = B 100 5 → Q (.inl (some (iv v))) B') → (∀ w, sMem sg st 201 st (fun _ => false) = .error w → ∀ B' v, BP sg B0 10 B B' w → 0 ≤ v → v < 408 → Q (.inl (some (iv v))) B') → c_Re_readSet_51 h1 d (B2 98 1 - 1) z B3 Q := by
    intro z st B3 hz S3 H3 t3 a3 la lb kG kB
    have hsg : sgC B3 (B3 100 2 + 0) = sg st := by rw [S3.1.2.2.1, Int.add_zero, a3]
    unfold c_Re_readSet_51
    rw [hsg]
    refine ⟨S3.1.2.1, S3.1.R _, fun q => ?_, fun q => ⟨S3.1.R3, ?_⟩⟩
    · refine L_readSet (st := st) (by omega) hK (by omega) (by omega) 201 0 (fun _ => false) B3 (by omega) (by omega) (by omega) (by omega) S3 H3 t3 (fun w => absurd (by rw [← a3]; exact w) q) (by omega) (fun P a hE B' g1 g2 g3 g4 g5 => ?_) (fun w hE B' g1 g2 g3 g4 => ?_)
      · rw [a3] at hE
        have la2 : B 100 2 < a := by
          have := g1.1.2.2.2.2.2.2.1
          have := g1.2 98 1 (by omega) (by omega)
          by_cases hh : B 100 2 < a
          · exact hh
          · exfalso
            have : ∀ (f : Nat) (x : Int) (P P' : Nat → Bool) (a : Int), sMem sg st f x P = .ok (P', a) → x < a := by
              intro f
              induction f with
              | zero => intro x P P' a hh; cases hh
              | succ f ih =>
                intro x P P' a hh
                by_cases hx : sg x = 93
                · by_cases hs : x = st
                  · unfold sMem at hh; rw [if_pos (Or.inr ⟨hx, hs⟩)] at hh; cases hh
                  · rw [sMem_e hx hs] at hh; cases hh; omega
                · rw [sMem_s hx] at hh
                  cases hm : mSt sg x with
                  | error w => rw [hm] at hh; cases hh
                  | ok K =>
                    obtain ⟨K, b⟩ := K
                    rw [hm] at hh
                    have := ih b _ _ _ hh
                    have := mSt_lt hm
                    omega
            have := this _ _ _ _ _ hE
            omega
        exact k106 z P a B' hz g1 g2 g3 g4 la2 g5 (kG P a hE)
      · rw [a3] at hE
        exact k106B z w B' hz g1 g2 g3 g4 (kB w hE)
    · have Sb := SSt_br (z := B3 100 2) S3 (by omega) (by omega)
      have hE : sMem sg st 201 st (fun _ => false) = .error st := by
        show (if sg st < 0 ∨ (sg st = 93 ∧ st = st) then _ else _) = _
        rw [if_pos (Or.inr ⟨q, rfl⟩)]
      have tb : brC B3 (B3 100 2) 100 3 = st := by rw [brC_3, if_pos t3, a3]
      refine c_Re_readSet_71_ok (by omega) Sb.1.1 ?_
      refine ⟨⟨by omega, by omega⟩, fun q => absurd q (by omega), fun _ => ⟨Sb.1.R3, fun _ => k106B z st _ hz Sb tb (by omega) (by rw [brC_at _ _ _ (by decide)]; omega) (kB st hE), fun q2 => ?_⟩⟩
      have := bi_z.mp q2
      rw [decide_eq_true (show ¬ brC B3 (B3 100 2) 100 3 = -1 by omega)] at this
      cases this
  rw [← eS]
  refine ⟨R2.2.1, sgC_R _ _, fun q => ?_, fun q => ?_⟩
  · rw [R2.2.2.1, Int.add_zero, a2] at q
    rw [if_neg q] at kG kB
    refine ⟨⟨by decide, by decide⟩, fun _ => k51 0 (B 100 2 + 1) B2 (by omega) S2 H2 t3 a2 (by omega) (by omega) (fun P a hE => ?_) (fun w hE => ?_), fun q => absurd rfl q⟩
    · rw [hE] at kG
      exact kG _ _ rfl
    · rw [hE] at kB
      exact kB _ rfl
  · rw [R2.2.2.1, Int.add_zero, a2] at q
    have l1 := (h.lt (i := B 100 2 + 1) (by omega)).1
    rw [if_pos q] at kG kB
    refine ⟨⟨by decide, by decide⟩, fun q => absurd q (by decide), fun _ => ?_⟩
    rw [a2]
    refine k51 1 (B 100 2 + 2) _ (by omega) (SSt_at S2 (by omega) (by omega)) (SHo_fr H2 (by omega) (fun x => u2_bank (by decide))) (by rw [u2_idx (by decide)]; exact t3) (by rw [u2_same]; omega) (by omega) (by omega) (fun P a hE => ?_) (fun w hE => ?_)
    · rw [hE] at kG
      exact kG _ _ rfl
    · rw [hE] at kB
      exact kB _ rfl
end CRD3
