/-! THE CLASS'S WALKER: a step with two ways -/
section RSP
variable {h1 : qH} {c0 s0 : Int} {a t : Nat} {n te : Int} {P : qP} {H : Int → Nat → Option Bool} {tx : Int → Int} {K : Nat} {Mx : Int}
theorem opL_le {L : Int → Int} {κ u x : Int} (h : u < L κ) : opL L κ u x ≤ L x := by
  unfold opL
  split
  · rename_i e; rw [e]; omega
  · exact Int.le_refl _
theorem Tm_ch {f : Nat} {lv : Int} {S : List Int} {s p u r ch : Int} (h : Tm n P Mx f lv S s p u r ch) : 1 ≤ ch ∧ 0 ≤ r ∧ 0 ≤ u ∧ u ≤ 11 := by
  cases f with
  | zero => exact h.elim
  | succ f => exact h.1
theorem Run_split {f : Nat} (hM0 : 0 ≤ Mx) (hK : KYs n P K) (ih : RunQ h1 c0 s0 a t n te P H tx K Mx f (fun _ => True)) : RunQ h1 c0 s0 a t n te P H tx K Mx (f + 1) (fun s => s ≠ 0 ∧ P 1 s = 15) := by
  intro lv S s p u r ch c L B k hgt Q d hC hd hT hB hh ok no
  have hB0 := hB
  obtain ⟨h0, hk15⟩ := hC
  obtain ⟨b1, b2, b3, b4, b5, b6, ⟨b7, b8⟩, b9, b10, b11⟩ := hB
  have hch := hT.1
  have hk9 : k < 1000000000 := by have := Psi_ge (K := K) (k := k) hM0 b7; omega
  have hW := b1.2.2.1
  have hd9 : 9 ≤ d := by omega
  have self := NOp.self hB0 hch.1
  have ePj : ∀ j s, 1 ≤ j → j ≤ 6 → B (a + j) s = P j s := b1.2.2.2.1
  have hX : TmX n P Mx (f + 1) s p u := ⟨_, _, _, _, hT⟩
  have hwd := hW.2.2.2.2.2.1
  have z0 := b1.2.1.pile.2.2.2.2.2.1
  have hslk : slk (P 1 s) := Or.inl hk15
  have hT0 := hT
  obtain ⟨-, q | ⟨hs, q⟩⟩ := hT
  · exact absurd q h0
  have hs2 : 1 ≤ s ∧ s < P 0 7 := ⟨hs.1, hs.2.1⟩
  have hs6 : 1 ≤ s ∧ s < 608 := ⟨hs.1, by have := hK.1; omega⟩
  obtain ⟨hr1, c1, c2, hc, e1, e2⟩ : 1 ≤ r ∧ ∃ c1 c2, c1 + c2 ≤ Mx ∧ Tm n P Mx f lv S (P 3 s) p u (r - 1) c1 ∧ Tm n P Mx f lv S (P 4 s) p u (r - 1) c2 := by
    rcases q with ⟨k1, -⟩ | ⟨k1, -⟩ | ⟨k1, -⟩ | ⟨-, hr1, c1, c2, hc, e1, e2⟩ | ⟨k1, -⟩ | ⟨k1, -⟩ | ⟨k1, -⟩
    · omega
    · omega
    · omega
    · exact ⟨hr1, c1, c2, hc, e1, e2⟩
    · omega
    · omega
    · omega
  have hc1 := Tm_ch e1
  have hc2 := Tm_ch e2
  have hky := ky_rg hK hs2 hslk b3
  have hLs := Lim_self hs2 hslk b3 hch.2.2.1 b8
  have hst : ∀ g, TmX n P Mx (g + 1) s p u → TmX n P Mx g (P 3 s) p u ∧ TmX n P Mx g (P 4 s) p u := fun g hg => by
    obtain ⟨g', e, -, -, -, z, -⟩ := TmX_sub hg h0
    have : g' = g := by omega
    subst this
    exact z hk15
  have hDf : Mx ≤ Mx * (L (ky P n s p) - u) := by
    have := Int.mul_le_mul_of_nonneg_left (show 1 ≤ L (ky P n s p) - u by omega) hM0
    omega
  refine L_sp (c0 := c0) (s0 := s0) hd9 b1.1 b1.2.1 hW b2 hs6 b3 ⟨hch.2.2.1, hch.2.2.2⟩ b10 hk9 (by omega) (by rw [ePj 1 s (by decide) (by decide)]; exact hk15) (by rw [keV_ky b1]; have := b1.2.2.2.2.2.2; omega) (fun w => ?_) (fun w B1 hU B2 hM => ?_)
  · rw [keV_ky b1] at w
    have hE := b6.2 s p u hslk hs2 b3 hch.2.2.1 w
    have elv := hs.2.2
    have := hE (f + 1) S r ch (by rw [elv]; exact hT0) c
    rw [elv] at this
    exact no this B k self
  · rw [keV_ky b1] at w
    rw [ePj 3 s (by decide) (by decide)] at hM
    have eW : Ww n tx te P H (f + 1) lv s p u c = Ww n tx te P H f lv (P 3 s) p u c ++ Ww n tx te P H f lv (P 4 s) p u c := Ww_sp h0 hk15
    rw [eW] at ok no
    obtain ⟨u1, u2', u3, u4, u5, u6, u7, u8⟩ := PU_all hU b1
    obtain ⟨m1, m2, m3, m4, m5, m6, m7⟩ := MV_all hM u1
    have hF : WF B B2 := u2'.tr m2
    have hr : ∀ κ, rv B2 κ = rv B κ := fun κ => by rw [m3, u3]
    have hz : B2 103 1 = B 103 1 + 1 := by rw [m4, u4]
    have hps : PSm B B2 (B 103 1) := u5.tr (m5 _)
    have htop : B2 (pe B2) (B 103 1) = pkV 0 s u p := by rw [m5 (B 103 1 + 1) _ z0 (by omega), u6]
    have ps : Psi K Mx (opL L (ky P n s p) u) B2 (k + 1) = Psi K Mx L B k + 1 - Mx * (L (ky P n s p) - u) := by
      rw [Psi_k, Psi_same hr, Psi_open hky.1 hky.2]; omega
    have hL2 : ∀ κ, 0 ≤ κ → rv B2 κ ≤ opL L (ky P n s p) u κ := fun κ k0 => by rw [hr]; exact opL_ge b7 (by omega) κ k0
    -- entries: the way that waits, or the one that failed
    have g1 : ∀ x, x = 0 ∨ x = 1 → enO (pkV x s u p) ∧ pkV x s u p / 16777216 ≠ 2 := fun x hx => by unfold enO pkV; omega
    refine ih lv S (P 3 s) p u (r - 1) c1 c (opL L (ky P n s p) u) B2 (k + 1) hgt Q d trivial hd e1 ⟨m1, m7, b3, fun i i0 i1 => by rw [m6, u7]; exact b4 i i0 i1, b5, RSn_same b6 hr, ⟨hL2, Lim_open hK hs2 hslk b3 b8 hX (Or.inr ⟨rfl, Int.le_refl _⟩) (fun g hg => (hst g hg).1)⟩, by omega, by omega, by omega⟩ (by omega) (fun o rest hw B' hB' => ok o (rest ++ Ww n tx te P H f lv (P 4 s) p u c) (by rw [hw]; rfl) B' ?_) (fun hw B3 k3 hB3 => ?_)
    · obtain ⟨q1, q2, q3, q4, q5, q6, q7, q8⟩ := hB'
      rw [hz] at q5 q6 q8
      have e9 : B' (pe B') (B 103 1) = pkV 0 s u p := by rw [q6 _ z0 (by omega)]; exact htop
      have := g1 0 (Or.inl rfl)
      exact ⟨q1, hF.tr q2, q3, fun κ k0 => by have := q4 κ k0; rw [hr] at this; exact ⟨this.1, Int.le_trans this.2 (opL_le hLs)⟩, ⟨by omega, by omega⟩, hps.tr (q6.le (by omega)), q7, UN_way (by omega) (by rw [e9]; exact this.1) (by rw [e9]; exact this.2) q8⟩
    · -- the second way
      obtain ⟨q1, q2, q3, q4, q5, q6, q7, q8, q9⟩ := hB3
      rw [hz] at q5 q6
      have e9 : B3 (pe B3) (B3 103 1 - 1) = pkV 0 s u p := by rw [q5, show B 103 1 + 1 - 1 = B 103 1 by omega, q6 _ z0 (by omega)]; exact htop
      have e3 : (B3 102 3).toNat = a := by have := q1.2.2.1.1; omega
      refine Fl_choice (c0 := c0) (s0 := s0) (by omega) q1.1 q1.2.1 (by omega) hh.1 e9 (by rw [e3]; exact q1.2.2.1.2.1) (by omega) hs6.2 hch.2.2.1 (by omega) b3.1 (by omega) (fun B5 hU5 => ?_)
      rw [e3, q1.2.2.2.1 4 s (by decide) (by decide)]
      obtain ⟨x1, x2, x3, x4, x5, x6⟩ := pop_all q1 (by omega)
      obtain ⟨v1, v2, v3, v4, v5, v6, v7, v8⟩ := PU_all hU5 x1
      have hM6 : MV c0 s0 B5 (u2 (u2 (u2 B5 102 6 (P 4 s)) 102 7 p) 102 8 u) (P 4 s) p u := by
        refine MV_in v1.1 v1.2.1 ⟨by rw [u2_idx (by decide), u2_idx (by decide), u2_same], by rw [u2_idx (by decide), u2_same], u2_same⟩ (fun b y hb => ?_)
        by_cases e : b = 102
        · have := hb e
          subst e
          rw [u2_idx this.2.2, u2_idx this.2.1, u2_idx this.1]
        · rw [u2_bank e, u2_bank e, u2_bank e]
      revert hM6
      generalize u2 (u2 (u2 B5 102 6 (P 4 s)) 102 7 p) 102 8 u = B6
      intro hM6
      obtain ⟨y1, y2, y3, y4, y5, y6, y7⟩ := MV_all hM6 v1
      have hF6 : WF B B6 := ((hF.tr q2).tr (x2.tr v2)).tr y2
      have hr6 : ∀ κ, rv B6 κ = rv B3 κ := fun κ => by rw [y3, v3, x3]
      have hz6 : B6 103 1 = B 103 1 + 1 := by rw [y4, v4, x4]; omega
      rw [x4] at v5 v6
      have hps6 : PSm B B6 (B 103 1) := (hps.tr (q6.le (by omega))).tr (((x5 _).tr (v5.le (by omega))).tr (y5 _))
      have htop6 : B6 (pe B6) (B 103 1) = pkV 1 s u p := by
        rw [y5 (B 103 1 + 1) _ z0 (by omega), ← v6]
        congr 1
        omega
      have ps6 : Psi K Mx (opL L (ky P n s p) u) B6 (k3 + 1) = Psi K Mx (opL L (ky P n s p) u) B3 k3 + 1 := by rw [Psi_k, Psi_same hr6]
      refine ih lv S (P 4 s) p u (r - 1) c2 c (opL L (ky P n s p) u) B6 (k3 + 1) hgt Q d trivial hd e2 ⟨y1, y7, b3, fun i i0 i1 => by rw [y6, v7, x6 107 i (by decide)]; exact q7 i i0 i1, b5, RSn_same q3 hr6, ⟨fun κ k0 => by rw [hr6]; exact (q4 κ k0).2, Lim_open hK hs2 hslk b3 b8 hX (Or.inr ⟨rfl, Int.le_refl _⟩) (fun g hg => (hst g hg).2)⟩, by omega, by omega, by omega⟩ (by omega) (fun o rest hw2 B' hB' => ok o rest (by rw [hw, hw2]; rfl) B' ?_) (fun hw2 B7 k7 hB7 => ?_)
      · obtain ⟨t1, t2, t3, t4, t5, t6, t7, t8⟩ := hB'
        rw [hz6] at t5 t6 t8
        have e10 : B' (pe B') (B 103 1) = pkV 1 s u p := by rw [t6 _ z0 (by omega)]; exact htop6
        have := g1 1 (Or.inr rfl)
        refine ⟨t1, hF6.tr t2, t3, fun κ k0 => ?_, ⟨by omega, by omega⟩, hps6.tr (t6.le (by omega)), t7, UN_way (by omega) (by rw [e10]; exact this.1) (by rw [e10]; exact this.2) t8⟩
        have w1 := q4 κ k0
        have w2 := t4 κ k0
        rw [hr] at w1
        rw [hr6] at w2
        exact ⟨Int.le_trans w1.1 w2.1, Int.le_trans w2.2 (opL_le hLs)⟩
      · -- both failed
        obtain ⟨t1, t2, t3, t4, t5, t6, t7, t8, t9⟩ := hB7
        rw [hz6] at t5 t6
        have e10 : B7 (pe B7) (B7 103 1 - 1) = pkV 1 s u p := by rw [t5, show B 103 1 + 1 - 1 = B 103 1 by omega, t6 _ z0 (by omega)]; exact htop6
        have hnil : Ww n tx te P H (f + 1) lv s p u c = [] := by rw [eW, hw, hw2]; rfl
        refine Fl_close (c0 := c0) (s0 := s0) (L := L) (by omega) hK t1 t3 hs2 hslk b3 ⟨hch.2.2.1, hch.2.2.2⟩ (fun κ k0 => (t4 κ k0).2) hLs (emp_of h0 b3.2 hT0 hnil) ⟨hh.1, by omega⟩ e10 (fun B8 i1 i2 i3 i4 i5 i6 i7 i8 => ?_)
        have hrv7 : rv B7 (ky P n s p) ≤ u := by
          have := (t4 _ hky.1).2
          unfold opL at this
          rwa [if_pos rfl] at this
        have hFf : Mx ≤ Mx * (u + 1 - rv B7 (ky P n s p)) := by
          have := Int.mul_le_mul_of_nonneg_left (show 1 ≤ u + 1 - rv B7 (ky P n s p) by omega) hM0
          omega
        refine no (by rw [hw, hw2]; rfl) B8 k7 ⟨i1, (hF6.tr t2).tr i2, i3, fun κ k0 => ?_, by omega, (hps6.tr (t6.le (by omega))).tr (i6.le (by omega)), fun i j0 j1 => by rw [i7]; exact t7 i j0 j1, by omega, by omega⟩
        have w1 := q4 κ k0
        have w2 := t4 κ k0
        have w3 := i4 κ k0
        rw [hr] at w1
        rw [hr6] at w2
        exact ⟨Int.le_trans w1.1 (Int.le_trans w2.1 w3.1), w3.2⟩
end RSP
