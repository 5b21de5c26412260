/-! THE CLASS'S WALKER: which entries stay when ways are dropped -/
/-- e tells how mark i was -/
def isU (i e : Int) : Prop := e / 16777216 = 2 ∧ e / 16384 % 1024 = i
def enK (e : Int) : Prop := enO e ∧ (e / 16777216 = 2 → e / 16384 % 1024 < 20)
section DRW
variable {h1 : qH} {d : Nat} {Q : qO → qB → Prop} {c0 s0 : Int}
/-- the ways above hgt are dropped -/
def DW (c0 s0 : Int) (B B' : qB) (hgt : Int) : Prop := SH B' ∧ DI c0 s0 B' ∧ pe B' = pe B ∧ fe B' = fe B ∧ (hgt ≤ B' 103 1 ∧ B' 103 1 ≤ B 103 1) ∧ (∀ b x, (b = pe B → x < hgt) → (b = 103 → x ≠ 1) → B' b x = B b x) ∧
  (∀ j, hgt ≤ j → j < B' 103 1 → B' (pe B) j / 16777216 = 2 ∧ B' (pe B) j / 16384 % 1024 < 20 ∧ enO (B' (pe B) j) ∧ ∃ k, hgt ≤ k ∧ k < B 103 1 ∧ B (pe B) k = B' (pe B) j ∧ ∀ k', hgt ≤ k' → k' < k → ¬ isU (B' (pe B) j / 16384 % 1024) (B (pe B) k')) ∧
  (∀ k, hgt ≤ k → k < B 103 1 → ∀ i, isU i (B (pe B) k) → ∃ j, hgt ≤ j ∧ j < B' 103 1 ∧ isU i (B' (pe B) j)) ∧
  (∀ j j', hgt ≤ j → j < j' → j' < B' 103 1 → B' (pe B) j / 16384 % 1024 ≠ B' (pe B) j' / 16384 % 1024)
theorem R_drop {B0 : qB} {hgt : Int} (hg : 0 ≤ hgt) (hgs : hgt ≤ B0 103 1) (hE : ∀ k, hgt ≤ k → k < B0 103 1 → enK (B0 (pe B0) k)) (hd : 2 ≤ d) (w : ∀ B', DW c0 s0 B0 B' hgt → Q (.inl none) B') : ∀ (N : Nat) (C : qB) (x2 x3 x4 : Int), (B0 103 1 - x4).toNat < N → SH C → DI c0 s0 C → pe C = pe B0 → fe C = fe B0 → hgt ≤ x2 → x2 ≤ x4 → x4 ≤ B0 103 1 → (∀ b x, (b = pe B0 → x < hgt ∨ x4 ≤ x) → C b x = B0 b x) →
    (∀ j, hgt ≤ j → j < x2 → C (pe B0) j / 16777216 = 2 ∧ C (pe B0) j / 16384 % 1024 < 20 ∧ enO (C (pe B0) j) ∧ ∃ k, hgt ≤ k ∧ k < x4 ∧ B0 (pe B0) k = C (pe B0) j ∧ ∀ k', hgt ≤ k' → k' < k → ¬ isU (C (pe B0) j / 16384 % 1024) (B0 (pe B0) k')) →
    (∀ i : Nat, i < 20 → (wb x3 i = true ↔ ∃ j, hgt ≤ j ∧ j < x2 ∧ C (pe B0) j / 16384 % 1024 = (i : Int))) →
    (∀ k, hgt ≤ k → k < x4 → ∀ i, isU i (B0 (pe B0) k) → ∃ j, hgt ≤ j ∧ j < x2 ∧ isU i (C (pe B0) j)) →
    (∀ j j', hgt ≤ j → j < j' → j' < x2 → C (pe B0) j / 16384 % 1024 ≠ C (pe B0) j' / 16384 % 1024) →
    qY h1 (d + 1) n_Pi_dropWays 7 [some (.ref 103), none, some (iv x2), some (iv x3), some (iv x4), none, none] [] C Q := by
  intro N
  induction N with
  | zero => intro C x2 x3 x4 hN; exact absurd hN (Nat.not_lt_zero _)
  | succ N ih =>
    intro C x2 x3 x4 hN hS hD hpe hfe i1 i2 i3 hfr I3 I4 I5 I6
    obtain ⟨g1, g2, g3, g4, -, g8, g9⟩ := hD.pile
    have hp4 : pe C = 104 ∨ 112 ≤ pe C := by
      obtain ⟨-, -, kp, kf, -, -, -, -, h7, -⟩ := hD
      exact h7.1
    have hpf : pe C ≠ fe C := by
      obtain ⟨-, -, kp, kf, -, -, -, -, -, -, h9, -⟩ := hD
      exact h9
    have hsz : C 103 1 = B0 103 1 := hfr 103 1 (fun q => by omega)
    have epe : (C 103 0).toNat = pe B0 := hpe
    rw [hpe] at g1 g2 g3 g4 g9 hp4
    refine c_Pi_dropWays_7_ok (by omega) hS ?_
    unfold c_Pi_dropWays_7
    rw [epe, hsz]
    refine ⟨⟨by omega, by omega⟩, ⟨by omega, by omega⟩, fun q => ⟨⟨by omega, by omega⟩, ⟨by omega, by omega⟩, ?_⟩, fun q => ?_⟩
    · have e4 : x4 = B0 103 1 := by omega
      subst e4
      rw [show min (B0 103 1) (max 0 x2) = x2 by omega]
      obtain ⟨D1, p1, f1⟩ := DI_sz (z := x2) hD (by omega) (by rw [hpe]; omega)
      have hb : ∀ y, (u2 C 103 1 x2) (pe B0) y = C (pe B0) y := fun y => u2_bank (by omega)
      refine w _ ⟨SH_u2 hS (by decide), D1, p1.trans hpe, f1.trans hfe, ⟨by rw [u2_same]; exact i1, by rw [u2_same]; omega⟩, fun b x hx1 hx2 => ?_, ?_, ?_, ?_⟩
      · by_cases e : b = 103
        · subst e
          rw [u2_idx (hx2 rfl)]
          exact hfr _ _ (fun q => Or.inl (hx1 q))
        · rw [u2_bank e]
          exact hfr _ _ (fun q => Or.inl (hx1 q))
      · intro j j0 j1
        rw [u2_same] at j1
        rw [hb]
        exact I3 j j0 j1
      · intro k k0 k1 i hi
        obtain ⟨j, j0, j1, j2⟩ := I5 k k0 k1 i hi
        exact ⟨j, j0, by rw [u2_same]; exact j1, by rw [hb]; exact j2⟩
      · intro j j' j0 j1 j2
        rw [u2_same] at j2
        rw [hb, hb]
        exact I6 j j' j0 j1 j2
    · have e : C (pe B0) x4 = B0 (pe B0) x4 := hfr _ _ (fun _ => Or.inr (Int.le_refl _))
      rw [e]
      have he := hE x4 (by omega) q
      obtain ⟨⟨n0, n1⟩, n2⟩ := he
      have hfr' : ∀ b x, (b = pe B0 → x < hgt ∨ x4 + 1 ≤ x) → C b x = B0 b x := fun b x hx => hfr b x (fun z => by have := hx z; omega)
      have I3' : ∀ j, hgt ≤ j → j < x2 → C (pe B0) j / 16777216 = 2 ∧ C (pe B0) j / 16384 % 1024 < 20 ∧ enO (C (pe B0) j) ∧ ∃ k, hgt ≤ k ∧ k < x4 + 1 ∧ B0 (pe B0) k = C (pe B0) j ∧ ∀ k', hgt ≤ k' → k' < k → ¬ isU (C (pe B0) j / 16384 % 1024) (B0 (pe B0) k') := fun j j0 j1 => by
        obtain ⟨z1, z2, z3, k, z4, z5, z6⟩ := I3 j j0 j1
        exact ⟨z1, z2, z3, k, z4, by omega, z6⟩
      refine ⟨g1, by omega, g4, by omega, by omega, ⟨n0, n1⟩, ⟨by omega, by omega⟩, fun hk => ?_, fun hk => ⟨fun hb => ?_, fun hb => ⟨by omega, by omega, ?_⟩⟩⟩
      · refine ih C x2 x3 (x4 + 1) (by omega) hS hD hpe hfe i1 (by omega) (by omega) hfr' I3' I4 (fun k k0 k1 i hi => ?_) I6
        by_cases ek : k = x4
        · subst ek; exact absurd hi.1 hk
        · exact I5 k k0 (by omega) i hi
      · refine ih C x2 x3 (x4 + 1) (by omega) hS hD hpe hfe i1 (by omega) (by omega) hfr' I3' I4 (fun k k0 k1 i hi => ?_) I6
        by_cases ek : k = x4
        · subst ek
          have hx := n2 hk
          have hwb : wb x3 (B0 (pe B0) k / 16384 % 1024).toNat = true := by
            rw [← wb_test (by omega)]
            rw [show (((B0 (pe B0) k / 16384 % 1024).toNat : Nat) : Int) = B0 (pe B0) k / 16384 % 1024 by omega]
            exact hb
          obtain ⟨j, j0, j1, j2⟩ := (I4 _ (by omega)).mp hwb
          exact ⟨j, j0, j1, (I3 j j0 j1).1, by rw [j2]; have := hi.2; omega⟩
        · exact I5 k k0 (by omega) i hi
      · have hx := n2 hk
        have ei : ((((B0 (pe B0) x4 / 16384 % 1024).toNat : Nat)) : Int) = B0 (pe B0) x4 / 16384 % 1024 := by omega
        have hwb : wb x3 (B0 (pe B0) x4 / 16384 % 1024).toNat = false := by
          cases hq : wb x3 (B0 (pe B0) x4 / 16384 % 1024).toNat with
          | false => rfl
          | true =>
            rw [← wb_test (by omega), ei] at hq
            exact absurd hb hq
        have hno : ∀ j, hgt ≤ j → j < x2 → C (pe B0) j / 16384 % 1024 ≠ B0 (pe B0) x4 / 16384 % 1024 := fun j j0 j1 q3 => by
          have := (I4 (B0 (pe B0) x4 / 16384 % 1024).toNat (by omega)).mpr ⟨j, j0, j1, by rw [ei]; exact q3⟩
          rw [hwb] at this
          cases this
        obtain ⟨D1, p1, f1⟩ := DI_u2 (b := pe B0) (x := x2) (z := B0 (pe B0) x4) hD (by omega) g4 (fun q => by omega) (fun q => by omega)
        have u1 : ∀ j, j ≠ x2 → (u2 C (pe B0) x2 (B0 (pe B0) x4)) (pe B0) j = C (pe B0) j := fun j hj => u2_idx hj
        have u3 : (u2 C (pe B0) x2 (B0 (pe B0) x4)) (pe B0) x2 = B0 (pe B0) x4 := u2_same
        refine ih _ (x2 + 1) _ (x4 + 1) (by omega) (SH_u2 hS (by omega)) D1 (p1.trans hpe) (f1.trans hfe) (by omega) (by omega) (by omega) (fun b x hx => ?_) (fun j j0 j1 => ?_) (fun i hi => ?_) (fun k k0 k1 i hi => ?_) (fun j j' j0 j1 j2 => ?_)
        · by_cases eb : b = pe B0
          · have := hx eb
            rw [eb, u1 x (by omega)]
            rw [← eb]
            exact hfr' b x hx
          · rw [u2_bank eb]
            exact hfr' b x hx
        · by_cases ej : j = x2
          · subst ej
            rw [u3]
            refine ⟨hk, hx, ⟨n0, n1⟩, x4, by omega, by omega, rfl, fun k' k0 k1 hu => ?_⟩
            obtain ⟨j9, z0, z1, z2⟩ := I5 k' k0 k1 _ hu
            exact hno j9 z0 z1 z2.2
          · rw [u1 j ej]
            exact I3' j j0 (by omega)
        · rw [wb_or, ← ei, wb_shl1 (by omega) i (by omega)]
          constructor
          · intro h
            rw [Bool.or_eq_true, decide_eq_true_iff] at h
            rcases h with h | h
            · obtain ⟨j, j0, j1, j2⟩ := (I4 i hi).mp h
              exact ⟨j, j0, by omega, by rw [u1 j (by omega)]; exact j2⟩
            · exact ⟨x2, i1, by omega, by rw [u3]; omega⟩
          · rintro ⟨j, j0, j1, j2⟩
            rw [Bool.or_eq_true, decide_eq_true_iff]
            by_cases ej : j = x2
            · subst ej
              rw [u3] at j2
              exact Or.inr (by omega)
            · rw [u1 j ej] at j2
              exact Or.inl ((I4 i hi).mpr ⟨j, j0, by omega, j2⟩)
        · by_cases ek : k = x4
          · subst ek
            exact ⟨x2, i1, by omega, by rw [u3]; exact hi⟩
          · obtain ⟨j, j0, j1, j2⟩ := I5 k k0 (by omega) i hi
            exact ⟨j, j0, by omega, by rw [u1 j (by omega)]; exact j2⟩
        · by_cases ej : j' = x2
          · subst ej
            rw [u3, u1 j (by omega)]
            exact hno j j0 (by omega)
          · rw [u1 j (by omega), u1 j' ej]
            exact I6 j j' j0 j1 (by omega)
theorem R_dropWays {B : qB} {hgt : Int} (hd : 4 ≤ d) (hS : SH B) (hD : DI c0 s0 B) (hg : 0 ≤ hgt) (hgs : hgt ≤ B 103 1) (hE : ∀ k, hgt ≤ k → k < B 103 1 → enK (B (pe B) k)) (w : ∀ B', DW c0 s0 B B' hgt → Q (.inl none) B') : qY h1 d n_Pi_dropWays 0 [some (.ref 103), some (iv hgt), none, none, none, none, none] [] B Q := by
  obtain ⟨d, rfl⟩ : ∃ d', d = d' + 1 := ⟨d - 1, by omega⟩
  refine c_Pi_dropWays_0_ok (by omega) hS ?_
  unfold c_Pi_dropWays_0
  exact R_drop (c0 := c0) (s0 := s0) hg hgs hE (by omega) w _ B hgt 0 hgt (Nat.lt_succ_self _) hS hD rfl rfl (Int.le_refl _) (Int.le_refl _) hgs (fun _ _ _ => rfl) (fun j j0 j1 => by omega) (fun i _ => ⟨fun q => absurd q (by rw [wb_0]; decide), fun ⟨j, j0, j1, _⟩ => by omega⟩) (fun k k0 k1 => by omega) (fun j j' j0 j1 j2 => by omega)
end DRW
