/-! THE CLASS: the records are cleared -/
section CLR
variable {h1 : qH} {d : Nat} {Q : qO → qB → Prop}
theorem R_fill2 {a0 : Nat} {n0 x2 x3 : Int} {B0 : qB} (hn : 0 ≤ n0 ∧ n0 ≤ 67108864) (ha : a0 < 1000000000) (hx : 0 ≤ x2 ∧ x2 ≤ n0) (w : ∀ B', SH B' → (∀ b x, (b = a0 → x < 0 ∨ x2 ≤ x) → B' b x = B0 b x) → (∀ x, 0 ≤ x → x < x2 → B' a0 x = x3) → Q (.inl none) B') : ∀ (N : Nat) (B : qB) (x4 : Int), (x2 - x4).toNat < N → 0 ≤ x4 → x4 ≤ x2 → SH B → isA B 1 a0 n0 → (∀ b x, (b = a0 → x < 0 ∨ x4 ≤ x) → B b x = B0 b x) → (∀ x, 0 ≤ x → x < x4 → B a0 x = x3) → qY h1 (d + 1) n_Ar_fill_AIIIIV 10 [some (.ref a0), none, some (iv x2), some (iv x3), some (iv x4)] [] B Q := by
  intro N
  induction N with
  | zero => intro B x4 h; exact absurd h (Nat.not_lt_zero _)
  | succ N ih =>
    intro B x4 hN h0 h2 hS hA hf hv
    refine c_Ar_fill_AIIIIV_10_ok (by omega) hS hA hn.2 ha ?_
    unfold c_Ar_fill_AIIIIV_10
    refine ⟨⟨by omega, by omega⟩, ⟨by omega, by omega⟩, fun q => w B hS (fun b x hx => hf b x (fun e => by have := hx e; omega)) (fun x y0 y1 => hv x y0 (by omega)), fun q => ⟨h0, by omega, ?_⟩⟩
    refine ih _ (x4 + 1) (by omega) (by omega) (by omega) (SH_u2 hS h0) ⟨by rw [u2_idx (by omega)]; exact hA.1, hA.2⟩ (fun b x hx => ?_) (fun x y0 y1 => ?_)
    · by_cases e : b = a0
      · have := hx e
        subst e
        rw [u2_idx (by omega)]
        exact hf _ _ (fun _ => by omega)
      · rw [u2_bank e]
        exact hf b x (fun q => absurd q e)
    · by_cases e : x = x4
      · subst e; exact u2_same
      · rw [u2_idx e]
        exact hv x y0 (by omega)
theorem nib_0 {j : Nat} (hj : j < 8) : nib 0 j = 0 := by
  have : ∀ j : Fin 8, nib 0 j = 0 := by decide +kernel
  exact this ⟨j, hj⟩
variable {c0 s0 : Int}
/-- the records are cleared -/
def FC (c0 s0 : Int) (B B' : qB) (amt : Int) : Prop := SH B' ∧ DI c0 s0 B' ∧ (∀ κ, 0 ≤ κ → κ ≤ amt → rv B' κ = 0) ∧ amt < 8 * el B' (fe B') ∧ (∀ b x, b < 112 → b ≠ 105 → b ≠ 106 → B' b x = B b x) ∧ ∀ x, B' 1000000000 x = B 1000000000 x
theorem FC_new {B : qB} {amt : Int} {kf j : Nat} (hS : SH B) (hD : DI c0 s0 B) (hk : el B (fe B) = ((2 ^ kf : Nat) : Int)) (hj : kf < j) (hj2 : j ≤ 16) (ha : 0 ≤ amt) (hx : amt / 8 + 1 ≤ ((2 ^ j : Nat) : Int)) : FC c0 s0 B (u2 (nwC B ((2 ^ j : Nat) : Int)) 105 0 (((B 2000000000 0).toNat : Nat) : Int)) amt := by
  obtain ⟨m1, m2, kp, kf', m3, m4, m5, m6, m7, m8, m9, m10, m11, m12, m13⟩ := hD
  have ek : ((2 ^ kf' : Nat) : Int) = ((2 ^ kf : Nat) : Int) := by
    have : el B (fe B) = ((2 ^ kf' : Nat) : Int) := by unfold el; rw [m6]; omega
    omega
  have ek2 : kf' = kf := (Nat.pow_right_inj (show 1 < 2 by decide)).mp (by omega)
  subst ek2
  have l1 := p2_le (show kf' + 1 ≤ j by omega)
  have l2 : ((2 ^ (kf' + 1) : Nat) : Int) = ((2 ^ kf' : Nat) : Int) * 2 := by rw [Nat.pow_succ]; omega
  have hnN : (B 2000000000 0).toNat < 1000000000 := by omega
  have hN0 : ∀ b x, b ≠ (B 2000000000 0).toNat → b ≠ 2000000000 → nwC B ((2 ^ j : Nat) : Int) b x = B b x := fun b x w1 w2 => by
    unfold nwC
    rw [if_neg w1, if_neg w2]
  have hNm : nwC B ((2 ^ j : Nat) : Int) (B 2000000000 0).toNat (-1) = 101 + 10 * ((2 ^ j : Nat) : Int) := by
    unfold nwC
    rw [if_pos rfl, if_pos rfl]
  have hNc : ∀ x, 0 ≤ x → nwC B ((2 ^ j : Nat) : Int) (B 2000000000 0).toNat x = 0 := fun x x0 => by
    unfold nwC
    rw [if_pos rfl, if_neg (by omega)]
  have hk0 : nwC B ((2 ^ j : Nat) : Int) 2000000000 0 = B 2000000000 0 + 1 := by
    unfold nwC
    rw [if_neg (by omega), if_pos rfl, if_pos rfl]
  have hk1 : nwC B ((2 ^ j : Nat) : Int) 2000000000 1 = B 2000000000 1 + ((2 ^ j : Nat) : Int) := by
    unfold nwC
    rw [if_neg (by omega), if_pos rfl, if_neg (by decide), if_pos rfl]
  have hkm : nwC B ((2 ^ j : Nat) : Int) 2000000000 (-1) = B 2000000000 (-1) := by
    unfold nwC
    rw [if_neg (by omega), if_pos rfl, if_neg (by decide), if_neg (by decide)]
  have hNS : SH (nwC B ((2 ^ j : Nat) : Int)) := ⟨fun a ha => by rw [hN0 a _ (by omega) (by omega)]; exact hS.1 a ha, by rw [hN0 _ _ (by omega) (by decide)]; exact hS.2⟩
  revert hN0 hNm hNc hk0 hk1 hkm hNS
  generalize nwC B ((2 ^ j : Nat) : Int) = C
  intro hN0 hNm hNc hk0 hk1 hkm hNS
  have ef : fe (u2 C 105 0 (((B 2000000000 0).toNat : Nat) : Int)) = (B 2000000000 0).toNat := by
    unfold fe
    rw [u2_same]
    omega
  have ep : pe (u2 C 105 0 (((B 2000000000 0).toNat : Nat) : Int)) = pe B := by
    unfold pe
    rw [u2_bank (by decide), hN0 _ _ (by omega) (by decide)]
  have eC : ∀ b y, b ≠ 105 → (u2 C 105 0 (((B 2000000000 0).toNat : Nat) : Int)) b y = C b y := fun b y w0 => u2_bank w0
  have hSn : SH (u2 C 105 0 (((B 2000000000 0).toNat : Nat) : Int)) := SH_u2 hNS (by decide)
  revert ef ep eC hSn
  generalize u2 C 105 0 (((B 2000000000 0).toNat : Nat) : Int) = E
  intro ef ep eC hSn
  have eN : ∀ y, E (B 2000000000 0).toNat y = C (B 2000000000 0).toNat y := fun y => eC _ _ (by omega)
  have hpe3 : pe B ≠ 105 ∧ pe B ≠ (B 2000000000 0).toNat := by omega
  refine ⟨hSn, ⟨⟨by rw [eC _ _ (by decide), hkm]; exact m1.1, by rw [eC _ _ (by decide), hk0]; omega, by rw [eC _ _ (by decide), hk1]; omega⟩, ⟨m2.1, by rw [eC _ _ (by decide), hk0]; omega, fun i hi => by rw [eC _ _ (by omega), hN0 _ _ (by omega) (by omega)]; exact m2.2.2 i hi⟩, kp, j, m3, ⟨by omega, hj2⟩, ?_, ?_, ⟨by rw [ep]; exact m7.1, by rw [ep, eC _ _ (by decide), hk0]; omega⟩, ⟨by rw [ef]; omega, by rw [ef, eC _ _ (by decide), hk0]; omega⟩, by rw [ep, ef]; exact hpe3.2, by rw [eC _ _ (by decide), hk0]; omega, by rw [eC _ _ (by decide), hk1]; omega, ?_, ?_⟩, fun κ k0 k1 => ?_, ?_, fun b x b1 b2 b3 => ?_, fun x => ?_⟩
  · rw [ep, eC _ _ hpe3.1, hN0 _ _ hpe3.2 (by omega)]; exact m5
  · rw [ef, eN, hNm]
  · rw [eC _ _ (by decide), hN0 _ _ (by omega) (by decide)]; exact m12
  · rw [eC _ _ (by decide), hN0 _ _ (by omega) (by decide)]; exact m13
  · unfold rv
    rw [ef, eN, hNc _ (by omega)]
    exact nib_0 (by omega)
  · unfold el
    rw [ef, eN, hNm]
    omega
  · rw [eC _ _ b2, hN0 _ _ (by omega) (by omega)]
  · rw [eC _ _ (by decide), hN0 _ _ (by omega) (by decide)]
theorem FC_fill {B B' : qB} {amt : Int} (hD : DI c0 s0 B) (hS : SH B') (ha : 0 ≤ amt) (hl : amt / 8 + 1 ≤ el B (fe B)) (g2 : ∀ b x, (b = fe B → x < 0 ∨ amt / 8 + 1 ≤ x) → B' b x = B b x) (g3 : ∀ x, 0 ≤ x → x < amt / 8 + 1 → B' (fe B) x = 0) : FC c0 s0 B B' amt := by
  have hfe := fe_ne hD
  have hfl := hD.fail.2.2.2
  have em : ∀ b, B' b (-1) = B b (-1) := fun b => g2 b (-1) (fun _ => Or.inl (by decide))
  have o : ∀ b x, b ≠ fe B → B' b x = B b x := fun b x hb => g2 b x (fun q => absurd q hb)
  have ep : pe B' = pe B := by unfold pe; rw [o 103 0 (by omega)]
  have ef : fe B' = fe B := by unfold fe; rw [o 105 0 (by omega)]
  refine ⟨hS, ?_, fun κ k0 k1 => ?_, ?_, fun b x b1 b2 b3 => o b x (by omega), fun x => o _ _ (by omega)⟩
  · unfold DI at hD ⊢
    simp only [ep, ef, em, o 2000000000 0 (by omega), o 2000000000 1 (by omega), o 103 1 (by omega)]
    exact hD
  · unfold rv
    rw [ef, g3 _ (by omega) (by omega)]
    exact nib_0 (by omega)
  · unfold el at hl ⊢
    rw [ef, em]
    omega
theorem L_clear {B : qB} {amt : Int} {kf : Nat} (hS : SH B) (hD : DI c0 s0 B) (hk : el B (fe B) = ((2 ^ kf : Nat) : Int)) (ha : 0 ≤ amt ∧ amt ≤ 400400) (hd : 2 ≤ d) (hf : 10 ≤ kf) (w : ∀ B', FC c0 s0 B B' amt → Q (.inl none) B') : ∀ (N j : Nat), 16 - j < N → j ≤ 16 → kf ≤ j → (kf < j ∨ ((2 ^ j : Nat) : Int) < amt / 8 + 1) → qY h1 (d + 1) n_Fl_clear 44 [some (.ref 105), none, some (iv (amt / 8 + 1)), some (iv ((2 ^ j : Nat) : Int)), some (iv (((j - kf : Nat)) : Int))] [] B Q := by
  intro N
  induction N with
  | zero => intro j h; exact absurd h (Nat.not_lt_zero _)
  | succ N ih =>
    intro j hN hj hkj hlt
    have l16 := p2_le hj
    have e16 : ((2 ^ 16 : Nat) : Int) = 65536 := by decide
    have lj : (1 : Int) ≤ ((2 ^ j : Nat) : Int) := by have := Nat.two_pow_pos j; omega
    have hnum : B 2000000000 0 < 1000000000 ∧ 112 ≤ B 2000000000 0 ∧ B 2000000000 (-1) = 0 ∧ 0 ≤ B 2000000000 1 := by
      obtain ⟨m1, m2, kp, kf', m3, m4, -, -, -, -, -, m10, -⟩ := hD
      exact ⟨by omega, m1.2.1, m1.1, m1.2.2⟩
    refine c_Fl_clear_44_ok (by omega) hS ?_
    unfold c_Fl_clear_44
    refine ⟨⟨by omega, by omega⟩, fun q => by omega, fun _ => ⟨⟨by omega, by omega⟩, ⟨by omega, by omega⟩, fun q => ?_, fun q => ?_⟩⟩
    · have hkl : kf < j := by omega
      have hFC := FC_new (amt := amt) hS hD hk hkl hj ha.1 (by omega)
      refine ⟨⟨hnum.2.2.1, by omega, hnum.1, hnum.2.2.2⟩, by omega, by omega, ?_, w _ hFC⟩
      refine ⟨fun a ha => ?_, ?_⟩
      · unfold nwC
        rw [if_neg (by omega), if_neg (by omega)]
        exact hS.1 a ha
      · unfold nwC
        rw [if_neg (by omega), if_neg (by decide)]
        exact hS.2
    · have hj16 : j < 16 := by
        rcases Nat.lt_or_ge j 16 with z | z
        · exact z
        · have := p2_le z; omega
      have := ih (j + 1) (by omega) (by omega) (by omega) (Or.inl (by omega))
      have e1 : ((2 ^ (j + 1) : Nat) : Int) = ((2 ^ j : Nat) : Int) * 2 := by rw [Nat.pow_succ]; omega
      have e2 : (((j + 1 - kf : Nat)) : Int) = ((j - kf : Nat) : Int) + 1 := by omega
      rw [e1, e2] at this
      exact this
theorem R_fclear {B : qB} {amt : Int} (hd : 5 ≤ d) (hS : SH B) (hD : DI c0 s0 B) (ha : 0 ≤ amt ∧ amt ≤ 400400) (w : ∀ B', FC c0 s0 B B' amt → Q (.inl none) B') : qY h1 d n_Fl_clear 0 [some (.ref 105), some (iv amt), none, none, none] [] B Q := by
  obtain ⟨d, rfl⟩ : ∃ d', d = d' + 1 := ⟨d - 1, by omega⟩
  obtain ⟨g1, g2, g3, g4⟩ := hD.fail
  have g2r : 1024 ≤ el B (B 105 0).toNat := g2
  have g3r : el B (B 105 0).toNat ≤ 65536 := g3
  obtain ⟨kf, hkf0, hkf1, hkf⟩ : ∃ kf : Nat, 10 ≤ kf ∧ kf ≤ 16 ∧ el B (fe B) = ((2 ^ kf : Nat) : Int) := by
    obtain ⟨m1, m2, kp, kf, m3, m4, m5, m6, -⟩ := hD
    exact ⟨kf, m4.1, m4.2, by unfold el; rw [m6]; omega⟩
  have hkfr : el B (B 105 0).toNat = ((2 ^ kf : Nat) : Int) := hkf
  refine c_Fl_clear_0_ok (by omega) hS ?_
  unfold c_Fl_clear_0
  rw [us3 ha.1 (by omega), show max 0 (amt / 8 + 1) = amt / 8 + 1 by omega, show min 65536 (amt / 8 + 1) = amt / 8 + 1 by omega]
  refine ⟨⟨by omega, by omega⟩, ⟨by omega, by omega⟩, g1, by omega, g4, ⟨by omega, by omega⟩, ⟨by omega, by omega⟩, fun q => ?_, fun q => ?_⟩
  · have := L_clear (h1 := h1) (d := d) hS hD hkf ha (by omega) hkf0 w _ kf (Nat.lt_succ_self _) hkf1 (Nat.le_refl _) (Or.inr (by omega))
    rw [Nat.sub_self, ← hkfr] at this
    exact this
  · obtain ⟨d, rfl⟩ : ∃ d', d = d' + 1 := ⟨d - 1, by omega⟩
    refine c_Ar_fill_AIIIIV_0_ok (by omega) hS g1 (by omega) g4 ?_
    unfold c_Ar_fill_AIIIIV_0
    obtain ⟨d, rfl⟩ : ∃ d', d = d' + 1 := ⟨d - 1, by omega⟩
    refine c_Ar_rangeCheck_0_ok (by omega) hS ?_
    unfold c_Ar_rangeCheck_0
    refine ⟨⟨by decide, by decide⟩, ⟨by omega, by omega⟩, fun _ => ⟨fun _ => ⟨⟨by omega, by omega⟩, fun _ => ⟨rfl, hS, g1, ?_⟩, fun z => by omega⟩, fun z => by omega⟩, fun z => by omega⟩
    unfold c_Ar_fill_AIIIIV_7
    refine R_fill2 (B0 := B) ⟨by omega, by omega⟩ g4 ⟨by omega, by omega⟩ (fun B1 z1 z2 z3 => ⟨rfl, z1, ?_⟩) _ B 0 (Nat.lt_succ_self _) (Int.le_refl _) (by omega) hS g1 (fun _ _ _ => rfl) (fun x y0 y1 => by omega)
    unfold c_Fl_clear_34
    exact w B1 (FC_fill hD z1 ha.1 (by omega) z2 z3)
end CLR
